section
-- ===== PART A: goes FIRST, ahead of the names: the tables' words, and 'selects' of the private methods out of them =====
/-- a private method of a class that the tables say can be made, by its rows of tables_1 -/
def lw_okq (q : MethodName × Nat) : Prop := (q.1.cls ≠ "java/lang/invoke/MethodHandle" ∧ q.1.cls ≠ "java/lang/invoke/VarHandle") ∧ Cond.instantiable q.1.cls q.2 ∈ tables_1 ∧ Cond.privateMethod q.1 ∈ tables_1 ∧ Cond.instanceMethod q.1 ∈ tables_1
theorem lw_p0 : lw_okq (⟨"GorgeRow$Text", "fits", "(I)Z"⟩, 2) := ⟨⟨by decide +kernel, by decide +kernel⟩, List.mem_of_getElem? (i := 19) (by decide +kernel), List.mem_of_getElem? (i := 144) (by decide +kernel), List.mem_of_getElem? (i := 145) (by decide +kernel)⟩
theorem lw_p1 : lw_okq (⟨"GorgeRow$Text", "byteAt", "(I)I"⟩, 2) := ⟨⟨by decide +kernel, by decide +kernel⟩, List.mem_of_getElem? (i := 19) (by decide +kernel), List.mem_of_getElem? (i := 148) (by decide +kernel), List.mem_of_getElem? (i := 149) (by decide +kernel)⟩
theorem lw_p2 : lw_okq (⟨"GorgeRow$Text", "fitsPart", "(I)Z"⟩, 2) := ⟨⟨by decide +kernel, by decide +kernel⟩, List.mem_of_getElem? (i := 19) (by decide +kernel), List.mem_of_getElem? (i := 157) (by decide +kernel), List.mem_of_getElem? (i := 158) (by decide +kernel)⟩
theorem lw_p3 : lw_okq (⟨"GorgeRow", "forgetKept", "()V"⟩, 11) := ⟨⟨by decide +kernel, by decide +kernel⟩, List.mem_of_getElem? (i := 11) (by decide +kernel), List.mem_of_getElem? (i := 201) (by decide +kernel), List.mem_of_getElem? (i := 202) (by decide +kernel)⟩
theorem lw_p4 : lw_okq (⟨"GorgeRow$Walk", "walkerAt", "(I)I"⟩, 5) := ⟨⟨by decide +kernel, by decide +kernel⟩, List.mem_of_getElem? (i := 55) (by decide +kernel), List.mem_of_getElem? (i := 283) (by decide +kernel), List.mem_of_getElem? (i := 284) (by decide +kernel)⟩
theorem lw_p5 : lw_okq (⟨"GorgeRow", "remember", "()V"⟩, 11) := ⟨⟨by decide +kernel, by decide +kernel⟩, List.mem_of_getElem? (i := 11) (by decide +kernel), List.mem_of_getElem? (i := 296) (by decide +kernel), List.mem_of_getElem? (i := 297) (by decide +kernel)⟩
theorem lw_p6 : lw_okq (⟨"GorgeRow$Walk", "isHeard", "(II)Z"⟩, 5) := ⟨⟨by decide +kernel, by decide +kernel⟩, List.mem_of_getElem? (i := 55) (by decide +kernel), List.mem_of_getElem? (i := 312) (by decide +kernel), List.mem_of_getElem? (i := 313) (by decide +kernel)⟩
theorem lw_p7 : lw_okq (⟨"GorgeRow$Walk", "setQuiet", "(II)V"⟩, 5) := ⟨⟨by decide +kernel, by decide +kernel⟩, List.mem_of_getElem? (i := 55) (by decide +kernel), List.mem_of_getElem? (i := 318) (by decide +kernel), List.mem_of_getElem? (i := 319) (by decide +kernel)⟩
theorem lw_p8 : lw_okq (⟨"GorgeRow$Walk", "turnRound", "()I"⟩, 5) := ⟨⟨by decide +kernel, by decide +kernel⟩, List.mem_of_getElem? (i := 55) (by decide +kernel), List.mem_of_getElem? (i := 323) (by decide +kernel), List.mem_of_getElem? (i := 324) (by decide +kernel)⟩
theorem lw_p9 : lw_okq (⟨"GorgeRow", "leftOf", "(IIJ)I"⟩, 11) := ⟨⟨by decide +kernel, by decide +kernel⟩, List.mem_of_getElem? (i := 11) (by decide +kernel), List.mem_of_getElem? (i := 388) (by decide +kernel), List.mem_of_getElem? (i := 389) (by decide +kernel)⟩
theorem lw_p10 : lw_okq (⟨"GorgeRowModel", "readGorge", "()I"⟩, 28) := ⟨⟨by decide +kernel, by decide +kernel⟩, List.mem_of_getElem? (i := 486) (by decide +kernel), List.mem_of_getElem? (i := 594) (by decide +kernel), List.mem_of_getElem? (i := 595) (by decide +kernel)⟩
theorem lw_p11 : lw_okq (⟨"GorgeRowModel", "figure", "(II)I"⟩, 28) := ⟨⟨by decide +kernel, by decide +kernel⟩, List.mem_of_getElem? (i := 486) (by decide +kernel), List.mem_of_getElem? (i := 598) (by decide +kernel), List.mem_of_getElem? (i := 599) (by decide +kernel)⟩
theorem lw_p12 : lw_okq (⟨"GorgeRowModel", "noOne", "(I)Z"⟩, 28) := ⟨⟨by decide +kernel, by decide +kernel⟩, List.mem_of_getElem? (i := 486) (by decide +kernel), List.mem_of_getElem? (i := 620) (by decide +kernel), List.mem_of_getElem? (i := 621) (by decide +kernel)⟩
theorem lw_p13 : lw_okq (⟨"GorgeRowModel", "note", "()V"⟩, 28) := ⟨⟨by decide +kernel, by decide +kernel⟩, List.mem_of_getElem? (i := 486) (by decide +kernel), List.mem_of_getElem? (i := 631) (by decide +kernel), List.mem_of_getElem? (i := 632) (by decide +kernel)⟩
theorem lw_p14 : lw_okq (⟨"GorgeRowModel", "goMinute", "([II)I"⟩, 28) := ⟨⟨by decide +kernel, by decide +kernel⟩, List.mem_of_getElem? (i := 486) (by decide +kernel), List.mem_of_getElem? (i := 635) (by decide +kernel), List.mem_of_getElem? (i := 636) (by decide +kernel)⟩
theorem lw_p15 : lw_okq (⟨"GorgeRowModel", "isHeard", "([III)Z"⟩, 28) := ⟨⟨by decide +kernel, by decide +kernel⟩, List.mem_of_getElem? (i := 486) (by decide +kernel), List.mem_of_getElem? (i := 639) (by decide +kernel), List.mem_of_getElem? (i := 640) (by decide +kernel)⟩
def lw_privs_1 : List (MethodName × Nat) := [(⟨"GorgeRow$Text", "fits", "(I)Z"⟩, 2), (⟨"GorgeRow$Text", "byteAt", "(I)I"⟩, 2), (⟨"GorgeRow$Text", "fitsPart", "(I)Z"⟩, 2), (⟨"GorgeRow", "forgetKept", "()V"⟩, 11), (⟨"GorgeRow$Walk", "walkerAt", "(I)I"⟩, 5), (⟨"GorgeRow", "remember", "()V"⟩, 11), (⟨"GorgeRow$Walk", "isHeard", "(II)Z"⟩, 5), (⟨"GorgeRow$Walk", "setQuiet", "(II)V"⟩, 5), (⟨"GorgeRow$Walk", "turnRound", "()I"⟩, 5), (⟨"GorgeRow", "leftOf", "(IIJ)I"⟩, 11), (⟨"GorgeRowModel", "readGorge", "()I"⟩, 28), (⟨"GorgeRowModel", "figure", "(II)I"⟩, 28), (⟨"GorgeRowModel", "noOne", "(I)Z"⟩, 28), (⟨"GorgeRowModel", "note", "()V"⟩, 28), (⟨"GorgeRowModel", "goMinute", "([II)I"⟩, 28), (⟨"GorgeRowModel", "isHeard", "([III)Z"⟩, 28)]
theorem lw_r1 : ∀ q ∈ lw_privs_1, lw_okq q := List.forall_mem_cons.mpr ⟨lw_p0, List.forall_mem_cons.mpr ⟨lw_p1, List.forall_mem_cons.mpr ⟨lw_p2, List.forall_mem_cons.mpr ⟨lw_p3, List.forall_mem_cons.mpr ⟨lw_p4, List.forall_mem_cons.mpr ⟨lw_p5, List.forall_mem_cons.mpr ⟨lw_p6, List.forall_mem_cons.mpr ⟨lw_p7, List.forall_mem_cons.mpr ⟨lw_p8, List.forall_mem_cons.mpr ⟨lw_p9, List.forall_mem_cons.mpr ⟨lw_p10, List.forall_mem_cons.mpr ⟨lw_p11, List.forall_mem_cons.mpr ⟨lw_p12, List.forall_mem_cons.mpr ⟨lw_p13, List.forall_mem_cons.mpr ⟨lw_p14, List.forall_mem_cons.mpr ⟨lw_p15, fun _ h => absurd h List.not_mem_nil⟩⟩⟩⟩⟩⟩⟩⟩⟩⟩⟩⟩⟩⟩⟩⟩
theorem lw_p16 : lw_okq (⟨"GorgeRowModel", "begin", "()V"⟩, 28) := ⟨⟨by decide +kernel, by decide +kernel⟩, List.mem_of_getElem? (i := 486) (by decide +kernel), List.mem_of_getElem? (i := 674) (by decide +kernel), List.mem_of_getElem? (i := 675) (by decide +kernel)⟩
theorem lw_p17 : lw_okq (⟨"GorgeRowModel", "sing", "(IJ)I"⟩, 28) := ⟨⟨by decide +kernel, by decide +kernel⟩, List.mem_of_getElem? (i := 486) (by decide +kernel), List.mem_of_getElem? (i := 678) (by decide +kernel), List.mem_of_getElem? (i := 679) (by decide +kernel)⟩
theorem lw_p18 : lw_okq (⟨"GorgeRowModel", "findOrder", "(IJ)V"⟩, 28) := ⟨⟨by decide +kernel, by decide +kernel⟩, List.mem_of_getElem? (i := 486) (by decide +kernel), List.mem_of_getElem? (i := 690) (by decide +kernel), List.mem_of_getElem? (i := 691) (by decide +kernel)⟩
theorem lw_p19 : lw_okq (⟨"GorgeRowModel", "hush", "()V"⟩, 28) := ⟨⟨by decide +kernel, by decide +kernel⟩, List.mem_of_getElem? (i := 486) (by decide +kernel), List.mem_of_getElem? (i := 694) (by decide +kernel), List.mem_of_getElem? (i := 695) (by decide +kernel)⟩
theorem lw_p20 : lw_okq (⟨"GorgeRowModel", "worthOf", "(IIJ)I"⟩, 28) := ⟨⟨by decide +kernel, by decide +kernel⟩, List.mem_of_getElem? (i := 486) (by decide +kernel), List.mem_of_getElem? (i := 702) (by decide +kernel), List.mem_of_getElem? (i := 703) (by decide +kernel)⟩
def lw_privs_2 : List (MethodName × Nat) := [(⟨"GorgeRowModel", "begin", "()V"⟩, 28), (⟨"GorgeRowModel", "sing", "(IJ)I"⟩, 28), (⟨"GorgeRowModel", "findOrder", "(IJ)V"⟩, 28), (⟨"GorgeRowModel", "hush", "()V"⟩, 28), (⟨"GorgeRowModel", "worthOf", "(IIJ)I"⟩, 28)]
theorem lw_r2 : ∀ q ∈ lw_privs_2, lw_okq q := List.forall_mem_cons.mpr ⟨lw_p16, List.forall_mem_cons.mpr ⟨lw_p17, List.forall_mem_cons.mpr ⟨lw_p18, List.forall_mem_cons.mpr ⟨lw_p19, List.forall_mem_cons.mpr ⟨lw_p20, fun _ h => absurd h List.not_mem_nil⟩⟩⟩⟩⟩
def lw_privs : List (MethodName × Nat) := lw_privs_1 ++ (lw_privs_2)
def lw_tbl : List Cond := k2_sels lw_privs ++ tables_1
theorem lw_privs_ok : ∀ q ∈ lw_privs, lw_okq q := by
  show ∀ q ∈ lw_privs_1 ++ (lw_privs_2), lw_okq q
  exact List.forall_mem_append.mpr ⟨lw_r1, lw_r2⟩
/-! ===== BEGIN words of one list among another's, by their places ===== -/
theorem goodIn_r {big : List Cond} (ws : List Cond) (ps : List Nat) (hp : ws = ps.filterMap (fun i => big[i]?)) (h : ws.all goodWord = true) : GoodIn big ws := by
  intro w hw
  have h1 := List.all_eq_true.mp h w hw
  rw [hp] at hw
  obtain ⟨i, -, hi⟩ := List.mem_filterMap.mp hw
  have hm : w ∈ big := by first | exact List.mem_of_getElem? hi | exact List.getElem?_mem hi
  exact ⟨hm, good_of_word h1⟩
theorem goodIn_app {big a b : List Cond} (ha : GoodIn big a) (hb : GoodIn big b) : GoodIn big (a ++ b) := fun w h => (List.mem_append.mp h).elim (ha w) (hb w)
theorem goodIn_ca {big a b : List Cond} {c : Cond} (ha : GoodIn big (c :: a)) (hb : GoodIn big b) : GoodIn big (c :: (a ++ b)) := fun w h => (List.mem_cons.mp h).elim (fun e => ha w (List.mem_cons.mpr (Or.inl e))) (fun h => (List.mem_append.mp h).elim (fun h => ha w (List.mem_cons.mpr (Or.inr h))) (hb w))
theorem goodIn_sub {big ws : List Cond} (hm : ∀ w ∈ ws, w ∈ big) (h : ws.all goodWord = true) : GoodIn big ws := fun w hw => ⟨hm w hw, good_of_word (List.all_eq_true.mp h w hw)⟩
/-! ===== END ===== -/

/-! ===== BEGIN printed: names, fields, word lists, decode rows ===== -/
def RX0 : String := "GorgeRow$Cells"
def TX0 : u_T := fun k => match k with
  | _ => ("", "", "", false)
def tyX0 : Nat → FieldType := fun k => match k with
  | _ => .int
abbrev wsX00 : List Cond := u_ws RX0 TX0 0
theorem nmX0 : ∀ a, a < 0 → ∀ b, b < 0 → a ≠ b → (TX0 a).2.1 ≠ (TX0 b).2.1 := by decide +kernel
theorem tyX0_ok : ∀ k, k < 0 → parseFieldDescriptor (TX0 k).2.2.1 = some (tyX0 k) := by decide +kernel
abbrev cX0_at : ByteArray := prog_2_method_2_code
def yX0_at : MethodName := ⟨RX0, "at", "(II)I"⟩
abbrev cX0_with : ByteArray := prog_2_method_3_code
def yX0_with : MethodName := ⟨RX0, "with", "(III)I"⟩
abbrev cX0_swapped : ByteArray := prog_2_method_4_code
def yX0_swapped : MethodName := ⟨RX0, "swapped", "(III)I"⟩
abbrev cX0_without : ByteArray := prog_2_method_5_code
def yX0_without : MethodName := ⟨RX0, "without", "(II)I"⟩
abbrev cX0_size : ByteArray := prog_2_method_6_code
def yX0_size : MethodName := ⟨RX0, "size", "(I)I"⟩
abbrev cX0_members : ByteArray := prog_2_method_7_code
def yX0_members : MethodName := ⟨RX0, "members", "(I)I"⟩
abbrev cX0_figures : ByteArray := prog_2_method_8_code
def yX0_figures : MethodName := ⟨RX0, "figures", "(I)I"⟩
abbrev cX0_only : ByteArray := prog_2_method_9_code
def yX0_only : MethodName := ⟨RX0, "only", "(II)I"⟩
abbrev cX0_ascending : ByteArray := prog_2_method_10_code
def yX0_ascending : MethodName := ⟨RX0, "ascending", "(I)I"⟩
abbrev cX0_nextOrder : ByteArray := prog_2_method_11_code
def yX0_nextOrder : MethodName := ⟨RX0, "nextOrder", "(I)I"⟩
def RX1 : String := "GorgeRow$Path"
def TX1 : u_T := fun k => match k with
  | 0 => ("GorgeRow$Path", "walkers", "I", false)
  | 1 => ("GorgeRow$Path", "light", "I", false)
  | 2 => ("GorgeRow$Path", "water", "I", false)
  | 3 => ("GorgeRow$Path", "nerves", "I", false)
  | _ => ("GorgeRow$Path", "kinds", "I", false)
def tyX1 : Nat → FieldType := fun k => match k with
  | 0 => .int
  | 1 => .int
  | 2 => .int
  | 3 => .int
  | _ => .int
abbrev wsX10 : List Cond := u_ws RX1 TX1 5
theorem nmX1 : ∀ a, a < 5 → ∀ b, b < 5 → a ≠ b → (TX1 a).2.1 ≠ (TX1 b).2.1 := by decide +kernel
theorem tyX1_ok : ∀ k, k < 5 → parseFieldDescriptor (TX1 k).2.2.1 = some (tyX1 k) := by decide +kernel
abbrev cX1_init : ByteArray := prog_3_method_1_code
def yX1_init : MethodName := ⟨RX1, "<init>", "()V"⟩
abbrev cX1_read : ByteArray := prog_3_method_2_code
def yX1_read : MethodName := ⟨RX1, "read", "(LGorgeRow$Text;)V"⟩
abbrev cX1_walkers : ByteArray := prog_3_method_3_code
def yX1_walkers : MethodName := ⟨RX1, "walkers", "()I"⟩
abbrev cX1_light : ByteArray := prog_3_method_4_code
def yX1_light : MethodName := ⟨RX1, "light", "()I"⟩
abbrev cX1_water : ByteArray := prog_3_method_5_code
def yX1_water : MethodName := ⟨RX1, "water", "()I"⟩
abbrev cX1_has : ByteArray := prog_3_method_6_code
def yX1_has : MethodName := ⟨RX1, "has", "(I)Z"⟩
abbrev cX1_everybody : ByteArray := prog_3_method_7_code
def yX1_everybody : MethodName := ⟨RX1, "everybody", "()I"⟩
abbrev cX1_nerve : ByteArray := prog_3_method_8_code
def yX1_nerve : MethodName := ⟨RX1, "nerve", "(I)I"⟩
abbrev cX1_kind : ByteArray := prog_3_method_9_code
def yX1_kind : MethodName := ⟨RX1, "kind", "(I)I"⟩
def RX2 : String := "GorgeRow$Text"
def TX2 : u_T := fun k => match k with
  | 0 => ("GorgeRow$Text", "bytes", "[I", true)
  | _ => ("GorgeRow$Text", "length", "I", false)
def tyX2 : Nat → FieldType := fun k => match k with
  | 0 => .array .int
  | _ => .int
abbrev wsX20 : List Cond := u_ws RX2 TX2 2
theorem nmX2 : ∀ a, a < 2 → ∀ b, b < 2 → a ≠ b → (TX2 a).2.1 ≠ (TX2 b).2.1 := by decide +kernel
theorem tyX2_ok : ∀ k, k < 2 → parseFieldDescriptor (TX2 k).2.2.1 = some (tyX2 k) := by decide +kernel
abbrev cX2_init : ByteArray := prog_4_method_1_code
def yX2_init : MethodName := ⟨RX2, "<init>", "()V"⟩
abbrev cX2_length : ByteArray := prog_4_method_2_code
def yX2_length : MethodName := ⟨RX2, "length", "()I"⟩
abbrev cX2_append : ByteArray := prog_4_method_3_code
def yX2_append : MethodName := ⟨RX2, "append", "(I)Z"⟩
abbrev cX2_clear : ByteArray := prog_4_method_4_code
def yX2_clear : MethodName := ⟨RX2, "clear", "()V"⟩
abbrev cX2_parts : ByteArray := prog_4_method_5_code
def yX2_parts : MethodName := ⟨RX2, "parts", "()I"⟩
abbrev cX2_figure : ByteArray := prog_4_method_6_code
def yX2_figure : MethodName := ⟨RX2, "figure", "(I)I"⟩
abbrev cX2_nerve : ByteArray := prog_4_method_7_code
def yX2_nerve : MethodName := ⟨RX2, "nerve", "(I)I"⟩
abbrev cX2_kind : ByteArray := prog_4_method_8_code
def yX2_kind : MethodName := ⟨RX2, "kind", "(I)I"⟩
abbrev cX2_firstFault : ByteArray := prog_4_method_9_code
def yX2_firstFault : MethodName := ⟨RX2, "firstFault", "()I"⟩
abbrev cX2_fits : ByteArray := prog_4_method_10_code
def yX2_fits : MethodName := ⟨RX2, "fits", "(I)Z"⟩
abbrev cX2_fitsPart : ByteArray := prog_4_method_11_code
def yX2_fitsPart : MethodName := ⟨RX2, "fitsPart", "(I)Z"⟩
abbrev cX2_byteAt : ByteArray := prog_4_method_12_code
def yX2_byteAt : MethodName := ⟨RX2, "byteAt", "(I)I"⟩
def RX3 : String := "GorgeRow$Walk"
def TX3 : u_T := fun k => match k with
  | 0 => ("GorgeRow$Walk", "path", "LGorgeRow$Path;", true)
  | 1 => ("GorgeRow$Walk", "row", "I", false)
  | 2 => ("GorgeRow$Walk", "quiets", "I", false)
  | 3 => ("GorgeRow$Walk", "place", "I", false)
  | _ => ("GorgeRow$Walk", "turned", "I", false)
def tyX3 : Nat → FieldType := fun k => match k with
  | 0 => .object "GorgeRow$Path"
  | 1 => .int
  | 2 => .int
  | 3 => .int
  | _ => .int
abbrev wsX30 : List Cond := u_ws RX3 TX3 5
theorem nmX3 : ∀ a, a < 5 → ∀ b, b < 5 → a ≠ b → (TX3 a).2.1 ≠ (TX3 b).2.1 := by decide +kernel
theorem tyX3_ok : ∀ k, k < 5 → parseFieldDescriptor (TX3 k).2.2.1 = some (tyX3 k) := by decide +kernel
abbrev cX3_init : ByteArray := prog_5_method_1_code
def yX3_init : MethodName := ⟨RX3, "<init>", "(LGorgeRow$Path;)V"⟩
abbrev cX3_row : ByteArray := prog_5_method_2_code
def yX3_row : MethodName := ⟨RX3, "row", "()I"⟩
abbrev cX3_place : ByteArray := prog_5_method_3_code
def yX3_place : MethodName := ⟨RX3, "place", "()I"⟩
abbrev cX3_size : ByteArray := prog_5_method_4_code
def yX3_size : MethodName := ⟨RX3, "size", "()I"⟩
abbrev cX3_members : ByteArray := prog_5_method_5_code
def yX3_members : MethodName := ⟨RX3, "members", "()I"⟩
abbrev cX3_isOut : ByteArray := prog_5_method_6_code
def yX3_isOut : MethodName := ⟨RX3, "isOut", "()Z"⟩
abbrev cX3_quiet : ByteArray := prog_5_method_7_code
def yX3_quiet : MethodName := ⟨RX3, "quiet", "(I)I"⟩
abbrev cX3_turned : ByteArray := prog_5_method_8_code
def yX3_turned : MethodName := ⟨RX3, "turned", "()I"⟩
abbrev cX3_indexOf : ByteArray := prog_5_method_9_code
def yX3_indexOf : MethodName := ⟨RX3, "indexOf", "(I)I"⟩
abbrev cX3_behind : ByteArray := prog_5_method_10_code
def yX3_behind : MethodName := ⟨RX3, "behind", "(I)I"⟩
abbrev cX3_start : ByteArray := prog_5_method_11_code
def yX3_start : MethodName := ⟨RX3, "start", "()V"⟩
abbrev cX3_lineUp : ByteArray := prog_5_method_12_code
def yX3_lineUp : MethodName := ⟨RX3, "lineUp", "(II)V"⟩
abbrev cX3_state : ByteArray := prog_5_method_13_code
def yX3_state : MethodName := ⟨RX3, "state", "()J"⟩
abbrev cX3_become : ByteArray := prog_5_method_14_code
def yX3_become : MethodName := ⟨RX3, "become", "(J)V"⟩
abbrev cX3_changePlaces : ByteArray := prog_5_method_15_code
def yX3_changePlaces : MethodName := ⟨RX3, "changePlaces", "(I)V"⟩
abbrev cX3_calm : ByteArray := prog_5_method_16_code
def yX3_calm : MethodName := ⟨RX3, "calm", "()I"⟩
abbrev cX3_sing : ByteArray := prog_5_method_17_code
def yX3_sing : MethodName := ⟨RX3, "sing", "(IJ)I"⟩
abbrev cX3_step : ByteArray := prog_5_method_18_code
def yX3_step : MethodName := ⟨RX3, "step", "(I)I"⟩
abbrev cX3_isHeard : ByteArray := prog_5_method_19_code
def yX3_isHeard : MethodName := ⟨RX3, "isHeard", "(II)Z"⟩
abbrev cX3_turnRound : ByteArray := prog_5_method_20_code
def yX3_turnRound : MethodName := ⟨RX3, "turnRound", "()I"⟩
abbrev cX3_walkerAt : ByteArray := prog_5_method_21_code
def yX3_walkerAt : MethodName := ⟨RX3, "walkerAt", "(I)I"⟩
abbrev cX3_setQuiet : ByteArray := prog_5_method_22_code
def yX3_setQuiet : MethodName := ⟨RX3, "setQuiet", "(II)V"⟩
abbrev cX3_treadsOf : ByteArray := prog_5_method_23_code
def yX3_treadsOf : MethodName := ⟨RX3, "treadsOf", "(JI)I"⟩
def RX4 : String := "GorgeRow"
def TX4 : u_T := fun k => match k with
  | 0 => ("GorgeRow", "text", "LGorgeRow$Text;", true)
  | 1 => ("GorgeRow", "path", "LGorgeRow$Path;", true)
  | 2 => ("GorgeRow", "now", "LGorgeRow$Walk;", true)
  | 3 => ("GorgeRow", "trial", "LGorgeRow$Walk;", true)
  | 4 => ("GorgeRow", "acts", "[J", true)
  | 5 => ("GorgeRow", "actCount", "I", false)
  | 6 => ("GorgeRow", "kept", "[J", true)
  | 7 => ("GorgeRow", "heardMinutes", "I", false)
  | 8 => ("GorgeRow", "silentMinutes", "I", false)
  | 9 => ("GorgeRow", "toldCount", "I", false)
  | _ => ("GorgeRow", "seedNow", "J", false)
def tyX4 : Nat → FieldType := fun k => match k with
  | 0 => .object "GorgeRow$Text"
  | 1 => .object "GorgeRow$Path"
  | 2 => .object "GorgeRow$Walk"
  | 3 => .object "GorgeRow$Walk"
  | 4 => .array .long
  | 5 => .int
  | 6 => .array .long
  | 7 => .int
  | 8 => .int
  | 9 => .int
  | _ => .long
abbrev wsX40 : List Cond := u_ws RX4 TX4 11
theorem nmX4 : ∀ a, a < 11 → ∀ b, b < 11 → a ≠ b → (TX4 a).2.1 ≠ (TX4 b).2.1 := by decide +kernel
theorem tyX4_ok : ∀ k, k < 11 → parseFieldDescriptor (TX4 k).2.2.1 = some (tyX4 k) := by decide +kernel
abbrev cX4_init : ByteArray := prog_1_method_1_code
def yX4_init : MethodName := ⟨RX4, "<init>", "()V"⟩
abbrev cX4_write : ByteArray := prog_1_method_2_code
def yX4_write : MethodName := ⟨RX4, "write", "(I)I"⟩
abbrev cX4_wipe : ByteArray := prog_1_method_3_code
def yX4_wipe : MethodName := ⟨RX4, "wipe", "()I"⟩
abbrev cX4_fault : ByteArray := prog_1_method_4_code
def yX4_fault : MethodName := ⟨RX4, "fault", "()I"⟩
abbrev cX4_gorge : ByteArray := prog_1_method_5_code
def yX4_gorge : MethodName := ⟨RX4, "gorge", "()I"⟩
abbrev cX4_about : ByteArray := prog_1_method_6_code
def yX4_about : MethodName := ⟨RX4, "about", "(I)I"⟩
abbrev cX4_walker : ByteArray := prog_1_method_7_code
def yX4_walker : MethodName := ⟨RX4, "walker", "(II)I"⟩
abbrev cX4_minute : ByteArray := prog_1_method_8_code
def yX4_minute : MethodName := ⟨RX4, "minute", "(I)I"⟩
abbrev cX4_change : ByteArray := prog_1_method_9_code
def yX4_change : MethodName := ⟨RX4, "change", "(I)I"⟩
abbrev cX4_rest : ByteArray := prog_1_method_10_code
def yX4_rest : MethodName := ⟨RX4, "rest", "()I"⟩
abbrev cX4_undo : ByteArray := prog_1_method_11_code
def yX4_undo : MethodName := ⟨RX4, "undo", "()I"⟩
abbrev cX4_remember : ByteArray := prog_1_method_12_code
def yX4_remember : MethodName := ⟨RX4, "remember", "()V"⟩
abbrev cX4_left : ByteArray := prog_1_method_13_code
def yX4_left : MethodName := ⟨RX4, "left", "(IJ)I"⟩
abbrev cX4_firstTurn : ByteArray := prog_1_method_14_code
def yX4_firstTurn : MethodName := ⟨RX4, "firstTurn", "(IJ)I"⟩
abbrev cX4_order : ByteArray := prog_1_method_15_code
def yX4_order : MethodName := ⟨RX4, "order", "(IJI)I"⟩
abbrev cX4_share : ByteArray := prog_1_method_16_code
def yX4_share : MethodName := ⟨RX4, "share", "(IIJZ)I"⟩
abbrev cX4_bears : ByteArray := prog_1_method_17_code
def yX4_bears : MethodName := ⟨RX4, "bears", "(I)I"⟩
abbrev cX4_leftOf : ByteArray := prog_1_method_18_code
def yX4_leftOf : MethodName := ⟨RX4, "leftOf", "(IIJ)I"⟩
abbrev cX4_isSong : ByteArray := prog_1_method_19_code
def yX4_isSong : MethodName := ⟨RX4, "isSong", "(IJ)Z"⟩
abbrev cX4_still : ByteArray := prog_1_method_20_code
def yX4_still : MethodName := ⟨RX4, "still", "(IIIIZ)I"⟩
abbrev cX4_pebbles : ByteArray := prog_1_method_21_code
def yX4_pebbles : MethodName := ⟨RX4, "pebbles", "(IIZ)I"⟩
abbrev cX4_tell : ByteArray := prog_1_method_22_code
def yX4_tell : MethodName := ⟨RX4, "tell", "(IZ)I"⟩
abbrev cX4_untell : ByteArray := prog_1_method_23_code
def yX4_untell : MethodName := ⟨RX4, "untell", "()I"⟩
abbrev cX4_letGo : ByteArray := prog_1_method_24_code
def yX4_letGo : MethodName := ⟨RX4, "letGo", "(Z)I"⟩
abbrev cX4_link : ByteArray := prog_1_method_25_code
def yX4_link : MethodName := ⟨RX4, "link", "(IIIZ)I"⟩
abbrev cX4_seed : ByteArray := prog_1_method_26_code
def yX4_seed : MethodName := ⟨RX4, "seed", "(J)J"⟩
abbrev cX4_gorges : ByteArray := prog_1_method_27_code
def yX4_gorges : MethodName := ⟨RX4, "gorges", "(I)I"⟩
abbrev cX4_longestSilence : ByteArray := prog_1_method_28_code
def yX4_longestSilence : MethodName := ⟨RX4, "longestSilence", "(II)I"⟩
abbrev cX4_keep : ByteArray := prog_1_method_29_code
def yX4_keep : MethodName := ⟨RX4, "keep", "(I)I"⟩
abbrev cX4_again : ByteArray := prog_1_method_30_code
def yX4_again : MethodName := ⟨RX4, "again", "(I)I"⟩
abbrev cX4_forgetKept : ByteArray := prog_1_method_31_code
def yX4_forgetKept : MethodName := ⟨RX4, "forgetKept", "()V"⟩
abbrev cX4_within : ByteArray := prog_1_method_32_code
def yX4_within : MethodName := ⟨RX4, "within", "(III)Z"⟩
abbrev cX4_isTenths : ByteArray := prog_1_method_33_code
def yX4_isTenths : MethodName := ⟨RX4, "isTenths", "(I)Z"⟩
abbrev cX4_factorial : ByteArray := prog_1_method_34_code
def yX4_factorial : MethodName := ⟨RX4, "factorial", "(I)I"⟩
abbrev cX4_power : ByteArray := prog_1_method_35_code
def yX4_power : MethodName := ⟨RX4, "power", "(II)J"⟩
abbrev cX4_fraction : ByteArray := prog_1_method_36_code
def yX4_fraction : MethodName := ⟨RX4, "fraction", "(JJZ)I"⟩
abbrev cX4_commonDivisor : ByteArray := prog_1_method_37_code
def yX4_commonDivisor : MethodName := ⟨RX4, "commonDivisor", "(JJ)J"⟩
def RX5 : String := "GorgeRowModel"
def TX5 : u_T := fun k => match k with
  | 0 => ("GorgeRowModel", "thrown", "I", false)
  | 1 => ("GorgeRowModel", "text", "[I", true)
  | 2 => ("GorgeRowModel", "textSize", "I", false)
  | 3 => ("GorgeRowModel", "place", "I", false)
  | 4 => ("GorgeRowModel", "walkers", "I", false)
  | 5 => ("GorgeRowModel", "light", "I", false)
  | 6 => ("GorgeRowModel", "water", "I", false)
  | 7 => ("GorgeRowModel", "nerve", "[I", true)
  | 8 => ("GorgeRowModel", "kind", "[I", true)
  | 9 => ("GorgeRowModel", "readWalkers", "I", false)
  | 10 => ("GorgeRowModel", "readLight", "I", false)
  | 11 => ("GorgeRowModel", "readWater", "I", false)
  | 12 => ("GorgeRowModel", "readNerve", "[I", true)
  | 13 => ("GorgeRowModel", "readKind", "[I", true)
  | 14 => ("GorgeRowModel", "page", "[I", true)
  | 15 => ("GorgeRowModel", "trial", "[I", true)
  | 16 => ("GorgeRowModel", "book", "[I", true)
  | 17 => ("GorgeRowModel", "acts", "I", false)
  | 18 => ("GorgeRowModel", "kept", "[I", true)
  | 19 => ("GorgeRowModel", "isKept", "[Z", true)
  | 20 => ("GorgeRowModel", "told", "I", false)
  | 21 => ("GorgeRowModel", "toldMinute", "[I", true)
  | 22 => ("GorgeRowModel", "toldHeard", "[Z", true)
  | 23 => ("GorgeRowModel", "seed", "J", false)
  | 24 => ("GorgeRowModel", "orderBest", "I", false)
  | 25 => ("GorgeRowModel", "orderMany", "I", false)
  | 26 => ("GorgeRowModel", "worth", "[I", true)
  | _ => ("GorgeRowModel", "turned", "I", false)
def tyX5 : Nat → FieldType := fun k => match k with
  | 0 => .int
  | 1 => .array .int
  | 2 => .int
  | 3 => .int
  | 4 => .int
  | 5 => .int
  | 6 => .int
  | 7 => .array .int
  | 8 => .array .int
  | 9 => .int
  | 10 => .int
  | 11 => .int
  | 12 => .array .int
  | 13 => .array .int
  | 14 => .array .int
  | 15 => .array .int
  | 16 => .array .int
  | 17 => .int
  | 18 => .array .int
  | 19 => .array .boolean
  | 20 => .int
  | 21 => .array .int
  | 22 => .array .boolean
  | 23 => .long
  | 24 => .int
  | 25 => .int
  | 26 => .array .int
  | _ => .int
abbrev wsX50 : List Cond := u_ws RX5 TX5 28
theorem nmX5 : ∀ a, a < 28 → ∀ b, b < 28 → a ≠ b → (TX5 a).2.1 ≠ (TX5 b).2.1 := by decide +kernel
theorem tyX5_ok : ∀ k, k < 28 → parseFieldDescriptor (TX5 k).2.2.1 = some (tyX5 k) := by decide +kernel
abbrev cX5_init : ByteArray := prog_7_method_1_code
def yX5_init : MethodName := ⟨RX5, "<init>", "()V"⟩
abbrev cX5_in : ByteArray := prog_7_method_3_code
def yX5_in : MethodName := ⟨RX5, "in", "(JJJ)Z"⟩
abbrev cX5_has : ByteArray := prog_7_method_4_code
def yX5_has : MethodName := ⟨RX5, "has", "(II)Z"⟩
abbrev cX5_many : ByteArray := prog_7_method_5_code
def yX5_many : MethodName := ⟨RX5, "many", "(I)I"⟩
abbrev cX5_noOne : ByteArray := prog_7_method_6_code
def yX5_noOne : MethodName := ⟨RX5, "noOne", "(I)Z"⟩
abbrev cX5_write : ByteArray := prog_7_method_7_code
def yX5_write : MethodName := ⟨RX5, "write", "(I)I"⟩
abbrev cX5_wipe : ByteArray := prog_7_method_8_code
def yX5_wipe : MethodName := ⟨RX5, "wipe", "()I"⟩
abbrev cX5_figure : ByteArray := prog_7_method_9_code
def yX5_figure : MethodName := ⟨RX5, "figure", "(II)I"⟩
abbrev cX5_readGorge : ByteArray := prog_7_method_10_code
def yX5_readGorge : MethodName := ⟨RX5, "readGorge", "()I"⟩
abbrev cX5_fault : ByteArray := prog_7_method_11_code
def yX5_fault : MethodName := ⟨RX5, "fault", "()I"⟩
abbrev cX5_gorge : ByteArray := prog_7_method_12_code
def yX5_gorge : MethodName := ⟨RX5, "gorge", "()I"⟩
abbrev cX5_rowOf : ByteArray := prog_7_method_13_code
def yX5_rowOf : MethodName := ⟨RX5, "rowOf", "([I)I"⟩
abbrev cX5_figuresOf : ByteArray := prog_7_method_14_code
def yX5_figuresOf : MethodName := ⟨RX5, "figuresOf", "([I)I"⟩
abbrev cX5_about : ByteArray := prog_7_method_15_code
def yX5_about : MethodName := ⟨RX5, "about", "(I)I"⟩
abbrev cX5_placeOf : ByteArray := prog_7_method_16_code
def yX5_placeOf : MethodName := ⟨RX5, "placeOf", "([II)I"⟩
abbrev cX5_walker : ByteArray := prog_7_method_17_code
def yX5_walker : MethodName := ⟨RX5, "walker", "(II)I"⟩
abbrev cX5_isHeard : ByteArray := prog_7_method_18_code
def yX5_isHeard : MethodName := ⟨RX5, "isHeard", "([III)Z"⟩
abbrev cX5_goMinute : ByteArray := prog_7_method_19_code
def yX5_goMinute : MethodName := ⟨RX5, "goMinute", "([II)I"⟩
abbrev cX5_note : ByteArray := prog_7_method_20_code
def yX5_note : MethodName := ⟨RX5, "note", "()V"⟩
abbrev cX5_minute : ByteArray := prog_7_method_21_code
def yX5_minute : MethodName := ⟨RX5, "minute", "(I)I"⟩
abbrev cX5_change : ByteArray := prog_7_method_22_code
def yX5_change : MethodName := ⟨RX5, "change", "(I)I"⟩
abbrev cX5_rest : ByteArray := prog_7_method_23_code
def yX5_rest : MethodName := ⟨RX5, "rest", "()I"⟩
abbrev cX5_undo : ByteArray := prog_7_method_24_code
def yX5_undo : MethodName := ⟨RX5, "undo", "()I"⟩
abbrev cX5_hundred : ByteArray := prog_7_method_25_code
def yX5_hundred : MethodName := ⟨RX5, "hundred", "(I)J"⟩
abbrev cX5_treadsOf : ByteArray := prog_7_method_26_code
def yX5_treadsOf : MethodName := ⟨RX5, "treadsOf", "(IJI)I"⟩
abbrev cX5_noSong : ByteArray := prog_7_method_27_code
def yX5_noSong : MethodName := ⟨RX5, "noSong", "(IJ)Z"⟩
abbrev cX5_begin : ByteArray := prog_7_method_28_code
def yX5_begin : MethodName := ⟨RX5, "begin", "()V"⟩
abbrev cX5_sing : ByteArray := prog_7_method_29_code
def yX5_sing : MethodName := ⟨RX5, "sing", "(IJ)I"⟩
abbrev cX5_left : ByteArray := prog_7_method_30_code
def yX5_left : MethodName := ⟨RX5, "left", "(IJ)I"⟩
abbrev cX5_firstTurn : ByteArray := prog_7_method_31_code
def yX5_firstTurn : MethodName := ⟨RX5, "firstTurn", "(IJ)I"⟩
abbrev cX5_hush : ByteArray := prog_7_method_32_code
def yX5_hush : MethodName := ⟨RX5, "hush", "()V"⟩
abbrev cX5_findOrder : ByteArray := prog_7_method_33_code
def yX5_findOrder : MethodName := ⟨RX5, "findOrder", "(IJ)V"⟩
abbrev cX5_order : ByteArray := prog_7_method_34_code
def yX5_order : MethodName := ⟨RX5, "order", "(IJI)I"⟩
abbrev cX5_worthOf : ByteArray := prog_7_method_35_code
def yX5_worthOf : MethodName := ⟨RX5, "worthOf", "(IIJ)I"⟩
abbrev cX5_orders : ByteArray := prog_7_method_36_code
def yX5_orders : MethodName := ⟨RX5, "orders", "(I)I"⟩
abbrev cX5_divisor : ByteArray := prog_7_method_37_code
def yX5_divisor : MethodName := ⟨RX5, "divisor", "(II)I"⟩
abbrev cX5_fraction : ByteArray := prog_7_method_38_code
def yX5_fraction : MethodName := ⟨RX5, "fraction", "(IIZ)I"⟩
abbrev cX5_share : ByteArray := prog_7_method_39_code
def yX5_share : MethodName := ⟨RX5, "share", "(IIJZ)I"⟩
abbrev cX5_bears : ByteArray := prog_7_method_40_code
def yX5_bears : MethodName := ⟨RX5, "bears", "(I)I"⟩
abbrev cX5_ten : ByteArray := prog_7_method_41_code
def yX5_ten : MethodName := ⟨RX5, "ten", "(I)I"⟩
abbrev cX5_still : ByteArray := prog_7_method_42_code
def yX5_still : MethodName := ⟨RX5, "still", "(IIIIZ)I"⟩
abbrev cX5_pebbles : ByteArray := prog_7_method_43_code
def yX5_pebbles : MethodName := ⟨RX5, "pebbles", "(IIZ)I"⟩
abbrev cX5_tell : ByteArray := prog_7_method_44_code
def yX5_tell : MethodName := ⟨RX5, "tell", "(IZ)I"⟩
abbrev cX5_untell : ByteArray := prog_7_method_45_code
def yX5_untell : MethodName := ⟨RX5, "untell", "()I"⟩
abbrev cX5_letGo : ByteArray := prog_7_method_46_code
def yX5_letGo : MethodName := ⟨RX5, "letGo", "(Z)I"⟩
abbrev cX5_link : ByteArray := prog_7_method_47_code
def yX5_link : MethodName := ⟨RX5, "link", "(IIIZ)I"⟩
abbrev cX5_seed : ByteArray := prog_7_method_48_code
def yX5_seed : MethodName := ⟨RX5, "seed", "(J)J"⟩
abbrev cX5_gorges : ByteArray := prog_7_method_49_code
def yX5_gorges : MethodName := ⟨RX5, "gorges", "(I)I"⟩
abbrev cX5_keep : ByteArray := prog_7_method_50_code
def yX5_keep : MethodName := ⟨RX5, "keep", "(I)I"⟩
abbrev cX5_again : ByteArray := prog_7_method_51_code
def yX5_again : MethodName := ⟨RX5, "again", "(I)I"⟩
def RJ6 : String := "java/lang/Integer"
def TJ6 : u_T := fun k => match k with
  | _ => ("", "", "", false)
def tyJ6 : Nat → FieldType := fun k => match k with
  | _ => .int
abbrev wsJ60 : List Cond := u_ws RJ6 TJ6 0
theorem nmJ6 : ∀ a, a < 0 → ∀ b, b < 0 → a ≠ b → (TJ6 a).2.1 ≠ (TJ6 b).2.1 := by decide +kernel
theorem tyJ6_ok : ∀ k, k < 0 → parseFieldDescriptor (TJ6 k).2.2.1 = some (tyJ6 k) := by decide +kernel
abbrev cJ6_bitCount_0f7a4 : ByteArray := prog_8_method_49_code
def yJ6_bitCount_0f7a4 : MethodName := ⟨RJ6, "bitCount", "(I)I"⟩
def RJ9 : String := "java/lang/Math"
def TJ9 : u_T := fun k => match k with
  | _ => ("", "", "", false)
def tyJ9 : Nat → FieldType := fun k => match k with
  | _ => .int
abbrev wsJ90 : List Cond := u_ws RJ9 TJ9 0
theorem nmJ9 : ∀ a, a < 0 → ∀ b, b < 0 → a ≠ b → (TJ9 a).2.1 ≠ (TJ9 b).2.1 := by decide +kernel
theorem tyJ9_ok : ∀ k, k < 0 → parseFieldDescriptor (TJ9 k).2.2.1 = some (tyJ9 k) := by decide +kernel
abbrev cJ9_abs_067f4 : ByteArray := prog_9_method_61_code
def yJ9_abs_067f4 : MethodName := ⟨RJ9, "abs", "(J)J"⟩
abbrev cJ9_max_7cf53 : ByteArray := prog_9_method_65_code
def yJ9_max_7cf53 : MethodName := ⟨RJ9, "max", "(II)I"⟩
def RJ10 : String := "java/lang/System"
def TJ10 : u_T := fun k => match k with
  | _ => ("", "", "", false)
def tyJ10 : Nat → FieldType := fun k => match k with
  | _ => .int
abbrev wsJ100 : List Cond := u_ws RJ10 TJ10 0
theorem nmJ10 : ∀ a, a < 0 → ∀ b, b < 0 → a ≠ b → (TJ10 a).2.1 ≠ (TJ10 b).2.1 := by decide +kernel
theorem tyJ10_ok : ∀ k, k < 0 → parseFieldDescriptor (TJ10 k).2.2.1 = some (tyJ10 k) := by decide +kernel
def RL : String := "GorgeRowLaw"
abbrev cL_law : ByteArray := code
def yL_law : MethodName := ⟨RL, "law", "([I)Z"⟩
def wsX0_at : List Cond := .code yX0_at cX0_at 2 (some .int) :: ([])
def wsX0_with : List Cond := .code yX0_with cX0_with 3 (some .int) :: ([])
def wsX0_swapped : List Cond := .code yX0_swapped cX0_swapped 3 (some .int) :: ([.methodLink RX0 9 yX0_at, .static yX0_at, .initialized RX0, .code yX0_at cX0_at 2 (some .int), .methodLink RX0 15 yX0_with, .static yX0_with, .code yX0_with cX0_with 3 (some .int)])
def wsX0_without : List Cond := .code yX0_without cX0_without 3 (some .int) :: ([])
def wsX0_size : List Cond := .code yX0_size cX0_size 2 (some .int) :: ([.methodLink RX0 9 yX0_at, .static yX0_at, .initialized RX0, .code yX0_at cX0_at 2 (some .int)])
def wsX0_members : List Cond := .code yX0_members cX0_members 3 (some .int) :: ([.methodLink RX0 19 yX0_size, .static yX0_size, .initialized RX0, .code yX0_size cX0_size 2 (some .int), .methodLink RX0 9 yX0_at, .static yX0_at, .code yX0_at cX0_at 2 (some .int)])
def wsX0_figures : List Cond := .code yX0_figures cX0_figures 3 (some .int) :: ([.methodLink RX0 19 yX0_size, .static yX0_size, .initialized RX0, .code yX0_size cX0_size 2 (some .int), .methodLink RX0 9 yX0_at, .static yX0_at, .code yX0_at cX0_at 2 (some .int)])
def wsX0_only : List Cond := .code yX0_only cX0_only 4 (some .int) :: ([.methodLink RX0 19 yX0_size, .static yX0_size, .initialized RX0, .code yX0_size cX0_size 2 (some .int), .methodLink RX0 9 yX0_at, .static yX0_at, .code yX0_at cX0_at 2 (some .int), .methodLink RX0 23 yX0_without, .static yX0_without, .code yX0_without cX0_without 3 (some .int)])
def wsX0_ascending : List Cond := .code yX0_ascending cX0_ascending 4 (some .int) :: ([.methodLink RX0 15 yX0_with, .static yX0_with, .initialized RX0, .code yX0_with cX0_with 3 (some .int)])
def wsX0_nextOrder : List Cond := .code yX0_nextOrder cX0_nextOrder 7 (some .int) :: ([.methodLink RX0 19 yX0_size, .static yX0_size, .initialized RX0, .code yX0_size cX0_size 2 (some .int), .methodLink RX0 9 yX0_at, .static yX0_at, .code yX0_at cX0_at 2 (some .int), .methodLink RX0 26 yX0_swapped, .static yX0_swapped, .code yX0_swapped cX0_swapped 3 (some .int), .methodLink RX0 15 yX0_with, .static yX0_with, .code yX0_with cX0_with 3 (some .int)])
def wsX1_init : List Cond := .code yX1_init cX1_init 1 none :: ([.methodLink RX1 1 objectInit, .instanceMethod objectInit, .code objectInit ⟨#[0xb1]⟩ 1 none, .fieldLink RX1 7 "GorgeRow$Path" "walkers" "I", .fieldLink RX1 13 "GorgeRow$Path" "light" "I", .fieldLink RX1 16 "GorgeRow$Path" "water" "I", .fieldLink RX1 19 "GorgeRow$Path" "nerves" "I", .fieldLink RX1 22 "GorgeRow$Path" "kinds" "I"] ++ wsX10)
def wsX2_byteAt : List Cond := .code yX2_byteAt cX2_byteAt 2 (some .int) :: ([.fieldLink RX2 9 "GorgeRow$Text" "bytes" "[I"] ++ wsX20)
def wsX2_figure : List Cond := .code yX2_figure cX2_figure 2 (some .int) :: ([.methodLink RX2 19 yX2_byteAt, .instanceMethod yX2_byteAt, .selects RX2 yX2_byteAt yX2_byteAt, .initialized RX2, .code yX2_byteAt cX2_byteAt 2 (some .int), .fieldLink RX2 9 "GorgeRow$Text" "bytes" "[I"] ++ wsX20)
def wsX2_parts : List Cond := .code yX2_parts cX2_parts 1 (some .int) :: ([.fieldLink RX2 15 "GorgeRow$Text" "length" "I"] ++ wsX20)
def wsX2_nerve : List Cond := .code yX2_nerve cX2_nerve 2 (some .int) :: ([.methodLink RX2 23 yX2_figure, .instanceMethod yX2_figure, .selects RX2 yX2_figure yX2_figure, .initialized RX2, .code yX2_figure cX2_figure 2 (some .int), .methodLink RX2 19 yX2_byteAt, .instanceMethod yX2_byteAt, .selects RX2 yX2_byteAt yX2_byteAt, .code yX2_byteAt cX2_byteAt 2 (some .int), .fieldLink RX2 9 "GorgeRow$Text" "bytes" "[I"] ++ wsX20)
def wsX2_kind : List Cond := .code yX2_kind cX2_kind 2 (some .int) :: ([.methodLink RX2 23 yX2_figure, .instanceMethod yX2_figure, .selects RX2 yX2_figure yX2_figure, .initialized RX2, .code yX2_figure cX2_figure 2 (some .int), .methodLink RX2 19 yX2_byteAt, .instanceMethod yX2_byteAt, .selects RX2 yX2_byteAt yX2_byteAt, .code yX2_byteAt cX2_byteAt 2 (some .int), .fieldLink RX2 9 "GorgeRow$Text" "bytes" "[I"] ++ wsX20)
def wsX1_read_r1 : List Cond := [Cond.fieldLink RX1 13 "GorgeRow$Path" "light" "I", Cond.fieldLink RX1 16 "GorgeRow$Path" "water" "I", Cond.fieldLink RX1 7 "GorgeRow$Path" "walkers" "I", Cond.fieldLink RX1 19 "GorgeRow$Path" "nerves" "I", Cond.fieldLink RX1 22 "GorgeRow$Path" "kinds" "I", Cond.methodLink RX1 25 yX2_figure, Cond.instanceMethod yX2_figure, Cond.selects RX2 yX2_figure yX2_figure, Cond.initialized RX2, Cond.code yX2_figure cX2_figure 2 (some .int), Cond.methodLink RX2 19 yX2_byteAt, Cond.instanceMethod yX2_byteAt, Cond.selects RX2 yX2_byteAt yX2_byteAt, Cond.code yX2_byteAt cX2_byteAt 2 (some .int), Cond.fieldLink RX2 9 "GorgeRow$Text" "bytes" "[I", Cond.methodLink RX1 31 yX2_parts, Cond.instanceMethod yX2_parts, Cond.selects RX2 yX2_parts yX2_parts, Cond.code yX2_parts cX2_parts 1 (some .int), Cond.fieldLink RX2 15 "GorgeRow$Text" "length" "I", Cond.methodLink RX1 35 yX2_nerve, Cond.instanceMethod yX2_nerve, Cond.selects RX2 yX2_nerve yX2_nerve, Cond.code yX2_nerve cX2_nerve 2 (some .int)]
def wsX1_read_r2 : List Cond := [Cond.methodLink RX2 23 yX2_figure, Cond.methodLink RX1 38 yX0_with, Cond.static yX0_with, Cond.initialized RX0, Cond.code yX0_with cX0_with 3 (some .int), Cond.methodLink RX1 44 yX2_kind, Cond.instanceMethod yX2_kind, Cond.selects RX2 yX2_kind yX2_kind, Cond.code yX2_kind cX2_kind 2 (some .int)]
def wsX1_read : List Cond := .code yX1_read cX1_read 3 none :: ((wsX1_read_r1 ++ wsX1_read_r2) ++ wsX10 ++ wsX20)
def wsX1_walkers : List Cond := .code yX1_walkers cX1_walkers 1 (some .int) :: ([.fieldLink RX1 7 "GorgeRow$Path" "walkers" "I"] ++ wsX10)
def wsX1_light : List Cond := .code yX1_light cX1_light 1 (some .int) :: ([.fieldLink RX1 13 "GorgeRow$Path" "light" "I"] ++ wsX10)
def wsX1_water : List Cond := .code yX1_water cX1_water 1 (some .int) :: ([.fieldLink RX1 16 "GorgeRow$Path" "water" "I"] ++ wsX10)
def wsX4_within : List Cond := .code yX4_within cX4_within 3 (some .boolean) :: ([])
def wsX1_has : List Cond := .code yX1_has cX1_has 2 (some .boolean) :: ([.fieldLink RX1 7 "GorgeRow$Path" "walkers" "I", .static yX4_within, .initialized RX4, .code yX4_within cX4_within 3 (some .boolean)] ++ wsX10)
def wsX1_everybody : List Cond := .code yX1_everybody cX1_everybody 1 (some .int) :: ([.fieldLink RX1 7 "GorgeRow$Path" "walkers" "I"] ++ wsX10)
def wsX1_nerve : List Cond := .code yX1_nerve cX1_nerve 2 (some .int) :: ([.fieldLink RX1 19 "GorgeRow$Path" "nerves" "I", .methodLink RX1 53 yX0_at, .static yX0_at, .initialized RX0, .code yX0_at cX0_at 2 (some .int)] ++ wsX10)
def wsX1_kind : List Cond := .code yX1_kind cX1_kind 2 (some .int) :: ([.fieldLink RX1 22 "GorgeRow$Path" "kinds" "I", .methodLink RX1 53 yX0_at, .static yX0_at, .initialized RX0, .code yX0_at cX0_at 2 (some .int)] ++ wsX10)
def wsX2_init : List Cond := .code yX2_init cX2_init 1 none :: ([.methodLink RX2 3 objectInit, .instanceMethod objectInit, .code objectInit ⟨#[0xb1]⟩ 1 none, .arrayClass .int, .fieldLink RX2 9 "GorgeRow$Text" "bytes" "[I", .fieldLink RX2 15 "GorgeRow$Text" "length" "I"] ++ wsX20)
def wsX2_length : List Cond := .code yX2_length cX2_length 1 (some .int) :: ([.fieldLink RX2 15 "GorgeRow$Text" "length" "I"] ++ wsX20)
def wsX2_append : List Cond := .code yX2_append cX2_append 2 (some .boolean) :: ([.fieldLink RX2 15 "GorgeRow$Text" "length" "I", .fieldLink RX2 9 "GorgeRow$Text" "bytes" "[I"] ++ wsX20)
def wsX2_clear : List Cond := .code yX2_clear cX2_clear 1 none :: ([.fieldLink RX2 15 "GorgeRow$Text" "length" "I"] ++ wsX20)
def wsX2_fitsPart : List Cond := .code yX2_fitsPart cX2_fitsPart 2 (some .boolean) :: ([.methodLink RX2 19 yX2_byteAt, .instanceMethod yX2_byteAt, .selects RX2 yX2_byteAt yX2_byteAt, .initialized RX2, .code yX2_byteAt cX2_byteAt 2 (some .int), .fieldLink RX2 9 "GorgeRow$Text" "bytes" "[I", .methodLink RX2 23 yX2_figure, .instanceMethod yX2_figure, .selects RX2 yX2_figure yX2_figure, .code yX2_figure cX2_figure 2 (some .int), .static yX4_within, .initialized RX4, .code yX4_within cX4_within 3 (some .boolean)] ++ wsX20)
def wsX2_fits : List Cond := .code yX2_fits cX2_fits 2 (some .boolean) :: ([.methodLink RX2 19 yX2_byteAt, .instanceMethod yX2_byteAt, .selects RX2 yX2_byteAt yX2_byteAt, .initialized RX2, .code yX2_byteAt cX2_byteAt 2 (some .int), .fieldLink RX2 9 "GorgeRow$Text" "bytes" "[I", .methodLink RX2 23 yX2_figure, .instanceMethod yX2_figure, .selects RX2 yX2_figure yX2_figure, .code yX2_figure cX2_figure 2 (some .int), .static yX4_within, .initialized RX4, .code yX4_within cX4_within 3 (some .boolean), .methodLink RX2 34 yX2_fitsPart, .instanceMethod yX2_fitsPart, .selects RX2 yX2_fitsPart yX2_fitsPart, .code yX2_fitsPart cX2_fitsPart 2 (some .boolean)] ++ wsX20)
def wsX2_firstFault : List Cond := .code yX2_firstFault cX2_firstFault 2 (some .int) :: ([.fieldLink RX2 15 "GorgeRow$Text" "length" "I", .methodLink RX2 26 yX2_fits, .instanceMethod yX2_fits, .selects RX2 yX2_fits yX2_fits, .initialized RX2, .code yX2_fits cX2_fits 2 (some .boolean), .methodLink RX2 19 yX2_byteAt, .instanceMethod yX2_byteAt, .selects RX2 yX2_byteAt yX2_byteAt, .code yX2_byteAt cX2_byteAt 2 (some .int), .fieldLink RX2 9 "GorgeRow$Text" "bytes" "[I", .methodLink RX2 23 yX2_figure, .instanceMethod yX2_figure, .selects RX2 yX2_figure yX2_figure, .code yX2_figure cX2_figure 2 (some .int), .static yX4_within, .initialized RX4, .code yX4_within cX4_within 3 (some .boolean), .methodLink RX2 34 yX2_fitsPart, .instanceMethod yX2_fitsPart, .selects RX2 yX2_fitsPart yX2_fitsPart, .code yX2_fitsPart cX2_fitsPart 2 (some .boolean)] ++ wsX20)
def wsX3_init : List Cond := .code yX3_init cX3_init 2 none :: ([.methodLink RX3 5 objectInit, .instanceMethod objectInit, .code objectInit ⟨#[0xb1]⟩ 1 none, .fieldLink RX3 11 "GorgeRow$Walk" "row" "I", .fieldLink RX3 15 "GorgeRow$Walk" "quiets" "I", .fieldLink RX3 18 "GorgeRow$Walk" "place" "I", .fieldLink RX3 21 "GorgeRow$Walk" "turned" "I", .fieldLink RX3 24 "GorgeRow$Walk" "path" "LGorgeRow$Path;"] ++ wsX30)
def wsX3_row : List Cond := .code yX3_row cX3_row 1 (some .int) :: ([.fieldLink RX3 11 "GorgeRow$Walk" "row" "I"] ++ wsX30)
def wsX3_place : List Cond := .code yX3_place cX3_place 1 (some .int) :: ([.fieldLink RX3 18 "GorgeRow$Walk" "place" "I"] ++ wsX30)
def wsX3_size : List Cond := .code yX3_size cX3_size 1 (some .int) :: ([.fieldLink RX3 11 "GorgeRow$Walk" "row" "I", .methodLink RX3 28 yX0_size, .static yX0_size, .initialized RX0, .code yX0_size cX0_size 2 (some .int), .methodLink RX0 9 yX0_at, .static yX0_at, .code yX0_at cX0_at 2 (some .int)] ++ wsX30)
def wsX3_members : List Cond := .code yX3_members cX3_members 1 (some .int) :: ([.fieldLink RX3 11 "GorgeRow$Walk" "row" "I", .methodLink RX3 34 yX0_members, .static yX0_members, .initialized RX0, .code yX0_members cX0_members 3 (some .int), .methodLink RX0 19 yX0_size, .static yX0_size, .code yX0_size cX0_size 2 (some .int), .methodLink RX0 9 yX0_at, .static yX0_at, .code yX0_at cX0_at 2 (some .int)] ++ wsX30)
def wsX3_isOut : List Cond := .code yX3_isOut cX3_isOut 1 (some .boolean) :: ([.fieldLink RX3 18 "GorgeRow$Walk" "place" "I", .fieldLink RX3 24 "GorgeRow$Walk" "path" "LGorgeRow$Path;", .methodLink RX3 37 yX1_light, .instanceMethod yX1_light, .selects RX1 yX1_light yX1_light, .initialized RX1, .code yX1_light cX1_light 1 (some .int), .fieldLink RX1 13 "GorgeRow$Path" "light" "I"] ++ wsX30 ++ wsX10)
def wsX3_quiet : List Cond := .code yX3_quiet cX3_quiet 2 (some .int) :: ([.fieldLink RX3 15 "GorgeRow$Walk" "quiets" "I", .methodLink RX3 43 yX0_at, .static yX0_at, .initialized RX0, .code yX0_at cX0_at 2 (some .int)] ++ wsX30)
def wsX3_turned : List Cond := .code yX3_turned cX3_turned 1 (some .int) :: ([.fieldLink RX3 21 "GorgeRow$Walk" "turned" "I"] ++ wsX30)
def wsX3_walkerAt : List Cond := .code yX3_walkerAt cX3_walkerAt 2 (some .int) :: ([.fieldLink RX3 11 "GorgeRow$Walk" "row" "I", .methodLink RX3 43 yX0_at, .static yX0_at, .initialized RX0, .code yX0_at cX0_at 2 (some .int)] ++ wsX30)
def wsX3_indexOf : List Cond := .code yX3_indexOf cX3_indexOf 3 (some .int) :: ([.methodLink RX3 47 yX3_size, .instanceMethod yX3_size, .selects RX3 yX3_size yX3_size, .initialized RX3, .code yX3_size cX3_size 1 (some .int), .fieldLink RX3 11 "GorgeRow$Walk" "row" "I", .methodLink RX3 28 yX0_size, .static yX0_size, .initialized RX0, .code yX0_size cX0_size 2 (some .int), .methodLink RX0 9 yX0_at, .static yX0_at, .code yX0_at cX0_at 2 (some .int), .methodLink RX3 49 yX3_walkerAt, .instanceMethod yX3_walkerAt, .selects RX3 yX3_walkerAt yX3_walkerAt, .code yX3_walkerAt cX3_walkerAt 2 (some .int), .methodLink RX3 43 yX0_at] ++ wsX30)
def wsX3_behind : List Cond := .code yX3_behind cX3_behind 3 (some .int) :: ([.methodLink RX3 52 yX3_indexOf, .instanceMethod yX3_indexOf, .selects RX3 yX3_indexOf yX3_indexOf, .initialized RX3, .code yX3_indexOf cX3_indexOf 3 (some .int), .methodLink RX3 47 yX3_size, .instanceMethod yX3_size, .selects RX3 yX3_size yX3_size, .code yX3_size cX3_size 1 (some .int), .fieldLink RX3 11 "GorgeRow$Walk" "row" "I", .methodLink RX3 28 yX0_size, .static yX0_size, .initialized RX0, .code yX0_size cX0_size 2 (some .int), .methodLink RX0 9 yX0_at, .static yX0_at, .code yX0_at cX0_at 2 (some .int), .methodLink RX3 49 yX3_walkerAt, .instanceMethod yX3_walkerAt, .selects RX3 yX3_walkerAt yX3_walkerAt, .code yX3_walkerAt cX3_walkerAt 2 (some .int), .methodLink RX3 43 yX0_at] ++ wsX30)
def wsX3_lineUp : List Cond := .code yX3_lineUp cX3_lineUp 3 none :: ([.fieldLink RX3 11 "GorgeRow$Walk" "row" "I", .fieldLink RX3 15 "GorgeRow$Walk" "quiets" "I", .fieldLink RX3 18 "GorgeRow$Walk" "place" "I"] ++ wsX30)
def wsX3_start : List Cond := .code yX3_start cX3_start 1 none :: ([.fieldLink RX3 24 "GorgeRow$Walk" "path" "LGorgeRow$Path;", .methodLink RX3 55 yX1_everybody, .instanceMethod yX1_everybody, .selects RX1 yX1_everybody yX1_everybody, .initialized RX1, .code yX1_everybody cX1_everybody 1 (some .int), .fieldLink RX1 7 "GorgeRow$Path" "walkers" "I", .methodLink RX3 58 yX0_ascending, .static yX0_ascending, .initialized RX0, .code yX0_ascending cX0_ascending 4 (some .int), .methodLink RX0 15 yX0_with, .static yX0_with, .code yX0_with cX0_with 3 (some .int), .methodLink RX3 61 yX3_lineUp, .instanceMethod yX3_lineUp, .selects RX3 yX3_lineUp yX3_lineUp, .initialized RX3, .code yX3_lineUp cX3_lineUp 3 none, .fieldLink RX3 11 "GorgeRow$Walk" "row" "I", .fieldLink RX3 15 "GorgeRow$Walk" "quiets" "I", .fieldLink RX3 18 "GorgeRow$Walk" "place" "I"] ++ wsX30 ++ wsX10)
def wsX3_state : List Cond := .code yX3_state cX3_state 1 (some .long) :: ([.fieldLink RX3 18 "GorgeRow$Walk" "place" "I", .fieldLink RX3 15 "GorgeRow$Walk" "quiets" "I", .fieldLink RX3 11 "GorgeRow$Walk" "row" "I"] ++ wsX30)
def wsX3_become : List Cond := .code yX3_become cX3_become 3 none :: ([.constant RX3 65 (1048575), .fieldLink RX3 11 "GorgeRow$Walk" "row" "I", .fieldLink RX3 15 "GorgeRow$Walk" "quiets" "I", .fieldLink RX3 18 "GorgeRow$Walk" "place" "I"] ++ wsX30)
def wsX3_setQuiet : List Cond := .code yX3_setQuiet cX3_setQuiet 3 none :: ([.fieldLink RX3 15 "GorgeRow$Walk" "quiets" "I", .methodLink RX3 106 yX0_with, .static yX0_with, .initialized RX0, .code yX0_with cX0_with 3 (some .int)] ++ wsX30)
def wsX3_changePlaces : List Cond := .code yX3_changePlaces cX3_changePlaces 2 none :: ([.fieldLink RX3 11 "GorgeRow$Walk" "row" "I", .methodLink RX3 66 yX0_swapped, .static yX0_swapped, .initialized RX0, .code yX0_swapped cX0_swapped 3 (some .int), .methodLink RX0 9 yX0_at, .static yX0_at, .code yX0_at cX0_at 2 (some .int), .methodLink RX0 15 yX0_with, .static yX0_with, .code yX0_with cX0_with 3 (some .int), .methodLink RX3 49 yX3_walkerAt, .instanceMethod yX3_walkerAt, .selects RX3 yX3_walkerAt yX3_walkerAt, .initialized RX3, .code yX3_walkerAt cX3_walkerAt 2 (some .int), .methodLink RX3 43 yX0_at, .methodLink RX3 70 yX3_setQuiet, .instanceMethod yX3_setQuiet, .selects RX3 yX3_setQuiet yX3_setQuiet, .code yX3_setQuiet cX3_setQuiet 3 none, .fieldLink RX3 15 "GorgeRow$Walk" "quiets" "I", .methodLink RX3 106 yX0_with] ++ wsX30)
def wsX3_calm_r1 : List Cond := [Cond.methodLink RX3 47 yX3_size, Cond.instanceMethod yX3_size, Cond.selects RX3 yX3_size yX3_size, Cond.initialized RX3, Cond.code yX3_size cX3_size 1 (some .int), Cond.fieldLink RX3 11 "GorgeRow$Walk" "row" "I", Cond.methodLink RX3 28 yX0_size, Cond.static yX0_size, Cond.initialized RX0, Cond.code yX0_size cX0_size 2 (some .int), Cond.methodLink RX0 9 yX0_at, Cond.static yX0_at, Cond.code yX0_at cX0_at 2 (some .int), Cond.methodLink RX3 49 yX3_walkerAt, Cond.instanceMethod yX3_walkerAt, Cond.selects RX3 yX3_walkerAt yX3_walkerAt, Cond.code yX3_walkerAt cX3_walkerAt 2 (some .int), Cond.methodLink RX3 43 yX0_at, Cond.methodLink RX3 73 yX3_quiet, Cond.instanceMethod yX3_quiet, Cond.selects RX3 yX3_quiet yX3_quiet, Cond.code yX3_quiet cX3_quiet 2 (some .int), Cond.fieldLink RX3 15 "GorgeRow$Walk" "quiets" "I", Cond.methodLink RX3 70 yX3_setQuiet]
def wsX3_calm_r2 : List Cond := [Cond.instanceMethod yX3_setQuiet, Cond.selects RX3 yX3_setQuiet yX3_setQuiet, Cond.code yX3_setQuiet cX3_setQuiet 3 none, Cond.methodLink RX3 106 yX0_with, Cond.static yX0_with, Cond.code yX0_with cX0_with 3 (some .int)]
def wsX3_calm : List Cond := .code yX3_calm cX3_calm 3 (some .int) :: ((wsX3_calm_r1 ++ wsX3_calm_r2) ++ wsX30)
def wsX3_treadsOf : List Cond := .code yX3_treadsOf cX3_treadsOf 6 (some .int) :: ([.constantLong RX3 109 (100)])
def wsX3_isHeard : List Cond := .code yX3_isHeard cX3_isHeard 6 (some .boolean) :: ([.fieldLink RX3 24 "GorgeRow$Walk" "path" "LGorgeRow$Path;", .fieldLink RX3 18 "GorgeRow$Walk" "place" "I", .methodLink RX3 87 yX1_kind, .instanceMethod yX1_kind, .selects RX1 yX1_kind yX1_kind, .initialized RX1, .code yX1_kind cX1_kind 2 (some .int), .fieldLink RX1 22 "GorgeRow$Path" "kinds" "I", .methodLink RX1 53 yX0_at, .static yX0_at, .initialized RX0, .code yX0_at cX0_at 2 (some .int), .methodLink RX3 97 yX1_water, .instanceMethod yX1_water, .selects RX1 yX1_water yX1_water, .code yX1_water cX1_water 1 (some .int), .fieldLink RX1 16 "GorgeRow$Path" "water" "I"] ++ wsX30 ++ wsX10)
def wsX3_turnRound_r1 : List Cond := [Cond.fieldLink RX3 21 "GorgeRow$Walk" "turned" "I", Cond.fieldLink RX3 11 "GorgeRow$Walk" "row" "I", Cond.fieldLink RX3 24 "GorgeRow$Walk" "path" "LGorgeRow$Path;", Cond.methodLink RX3 28 yX0_size, Cond.static yX0_size, Cond.initialized RX0, Cond.code yX0_size cX0_size 2 (some .int), Cond.methodLink RX0 9 yX0_at, Cond.static yX0_at, Cond.code yX0_at cX0_at 2 (some .int), Cond.methodLink RX3 49 yX3_walkerAt, Cond.instanceMethod yX3_walkerAt, Cond.selects RX3 yX3_walkerAt yX3_walkerAt, Cond.initialized RX3, Cond.code yX3_walkerAt cX3_walkerAt 2 (some .int), Cond.methodLink RX3 43 yX0_at, Cond.methodLink RX3 87 yX1_kind, Cond.instanceMethod yX1_kind, Cond.selects RX1 yX1_kind yX1_kind, Cond.initialized RX1, Cond.code yX1_kind cX1_kind 2 (some .int), Cond.fieldLink RX1 22 "GorgeRow$Path" "kinds" "I", Cond.methodLink RX1 53 yX0_at, Cond.methodLink RX3 73 yX3_quiet]
def wsX3_turnRound_r2 : List Cond := [Cond.instanceMethod yX3_quiet, Cond.selects RX3 yX3_quiet yX3_quiet, Cond.code yX3_quiet cX3_quiet 2 (some .int), Cond.fieldLink RX3 15 "GorgeRow$Walk" "quiets" "I", Cond.methodLink RX3 100 yX1_nerve, Cond.instanceMethod yX1_nerve, Cond.selects RX1 yX1_nerve yX1_nerve, Cond.code yX1_nerve cX1_nerve 2 (some .int), Cond.fieldLink RX1 19 "GorgeRow$Path" "nerves" "I", Cond.methodLink RX3 103 yX0_without, Cond.static yX0_without, Cond.code yX0_without cX0_without 3 (some .int), Cond.methodLink RX3 70 yX3_setQuiet, Cond.instanceMethod yX3_setQuiet, Cond.selects RX3 yX3_setQuiet yX3_setQuiet, Cond.code yX3_setQuiet cX3_setQuiet 3 none, Cond.methodLink RX3 106 yX0_with, Cond.static yX0_with, Cond.code yX0_with cX0_with 3 (some .int)]
def wsX3_turnRound : List Cond := .code yX3_turnRound cX3_turnRound 4 (some .int) :: ((wsX3_turnRound_r1 ++ wsX3_turnRound_r2) ++ wsX30 ++ wsX10)
def wsX3_step_r1 : List Cond := [Cond.fieldLink RX3 24 "GorgeRow$Walk" "path" "LGorgeRow$Path;", Cond.fieldLink RX3 18 "GorgeRow$Walk" "place" "I", Cond.methodLink RX3 47 yX3_size, Cond.instanceMethod yX3_size, Cond.selects RX3 yX3_size yX3_size, Cond.initialized RX3, Cond.code yX3_size cX3_size 1 (some .int), Cond.fieldLink RX3 11 "GorgeRow$Walk" "row" "I", Cond.methodLink RX3 28 yX0_size, Cond.static yX0_size, Cond.initialized RX0, Cond.code yX0_size cX0_size 2 (some .int), Cond.methodLink RX0 9 yX0_at, Cond.static yX0_at, Cond.code yX0_at cX0_at 2 (some .int), Cond.methodLink RX3 49 yX3_walkerAt, Cond.instanceMethod yX3_walkerAt, Cond.selects RX3 yX3_walkerAt yX3_walkerAt, Cond.code yX3_walkerAt cX3_walkerAt 2 (some .int), Cond.methodLink RX3 43 yX0_at, Cond.methodLink RX3 87 yX1_kind, Cond.instanceMethod yX1_kind, Cond.selects RX1 yX1_kind yX1_kind, Cond.initialized RX1]
def wsX3_step_r2 : List Cond := [Cond.code yX1_kind cX1_kind 2 (some .int), Cond.fieldLink RX1 22 "GorgeRow$Path" "kinds" "I", Cond.methodLink RX1 53 yX0_at, Cond.methodLink RX3 90 yX3_isHeard, Cond.instanceMethod yX3_isHeard, Cond.selects RX3 yX3_isHeard yX3_isHeard, Cond.code yX3_isHeard cX3_isHeard 6 (some .boolean), Cond.methodLink RX3 97 yX1_water, Cond.instanceMethod yX1_water, Cond.selects RX1 yX1_water yX1_water, Cond.code yX1_water cX1_water 1 (some .int), Cond.fieldLink RX1 16 "GorgeRow$Path" "water" "I", Cond.methodLink RX3 73 yX3_quiet, Cond.instanceMethod yX3_quiet, Cond.selects RX3 yX3_quiet yX3_quiet, Cond.code yX3_quiet cX3_quiet 2 (some .int), Cond.fieldLink RX3 15 "GorgeRow$Walk" "quiets" "I", Cond.methodLink RX3 70 yX3_setQuiet, Cond.instanceMethod yX3_setQuiet, Cond.selects RX3 yX3_setQuiet yX3_setQuiet, Cond.code yX3_setQuiet cX3_setQuiet 3 none, Cond.methodLink RX3 106 yX0_with, Cond.static yX0_with, Cond.code yX0_with cX0_with 3 (some .int)]
def wsX3_step_r3 : List Cond := [Cond.methodLink RX3 94 yX3_turnRound, Cond.instanceMethod yX3_turnRound, Cond.selects RX3 yX3_turnRound yX3_turnRound, Cond.code yX3_turnRound cX3_turnRound 4 (some .int), Cond.fieldLink RX3 21 "GorgeRow$Walk" "turned" "I", Cond.methodLink RX3 100 yX1_nerve, Cond.instanceMethod yX1_nerve, Cond.selects RX1 yX1_nerve yX1_nerve, Cond.code yX1_nerve cX1_nerve 2 (some .int), Cond.fieldLink RX1 19 "GorgeRow$Path" "nerves" "I", Cond.methodLink RX3 103 yX0_without, Cond.static yX0_without, Cond.code yX0_without cX0_without 3 (some .int)]
def wsX3_step : List Cond := .code yX3_step cX3_step 6 (some .int) :: ((wsX3_step_r1 ++ (wsX3_step_r2 ++ wsX3_step_r3)) ++ wsX30 ++ wsX10)
def wsX3_sing_r1 : List Cond := [Cond.fieldLink RX3 21 "GorgeRow$Walk" "turned" "I", Cond.methodLink RX3 76 yX3_isOut, Cond.instanceMethod yX3_isOut, Cond.selects RX3 yX3_isOut yX3_isOut, Cond.initialized RX3, Cond.code yX3_isOut cX3_isOut 1 (some .boolean), Cond.fieldLink RX3 18 "GorgeRow$Walk" "place" "I", Cond.fieldLink RX3 24 "GorgeRow$Walk" "path" "LGorgeRow$Path;", Cond.methodLink RX3 37 yX1_light, Cond.instanceMethod yX1_light, Cond.selects RX1 yX1_light yX1_light, Cond.initialized RX1, Cond.code yX1_light cX1_light 1 (some .int), Cond.fieldLink RX1 13 "GorgeRow$Path" "light" "I", Cond.methodLink RX3 80 yX3_treadsOf, Cond.static yX3_treadsOf, Cond.code yX3_treadsOf cX3_treadsOf 6 (some .int), Cond.constantLong RX3 109 (100), Cond.methodLink RX3 84 yX3_step, Cond.instanceMethod yX3_step, Cond.selects RX3 yX3_step yX3_step, Cond.code yX3_step cX3_step 6 (some .int), Cond.methodLink RX3 47 yX3_size, Cond.instanceMethod yX3_size]
def wsX3_sing_r2 : List Cond := [Cond.selects RX3 yX3_size yX3_size, Cond.code yX3_size cX3_size 1 (some .int), Cond.fieldLink RX3 11 "GorgeRow$Walk" "row" "I", Cond.methodLink RX3 28 yX0_size, Cond.static yX0_size, Cond.initialized RX0, Cond.code yX0_size cX0_size 2 (some .int), Cond.methodLink RX0 9 yX0_at, Cond.static yX0_at, Cond.code yX0_at cX0_at 2 (some .int), Cond.methodLink RX3 49 yX3_walkerAt, Cond.instanceMethod yX3_walkerAt, Cond.selects RX3 yX3_walkerAt yX3_walkerAt, Cond.code yX3_walkerAt cX3_walkerAt 2 (some .int), Cond.methodLink RX3 43 yX0_at, Cond.methodLink RX3 87 yX1_kind, Cond.instanceMethod yX1_kind, Cond.selects RX1 yX1_kind yX1_kind, Cond.code yX1_kind cX1_kind 2 (some .int), Cond.fieldLink RX1 22 "GorgeRow$Path" "kinds" "I", Cond.methodLink RX1 53 yX0_at, Cond.methodLink RX3 90 yX3_isHeard, Cond.instanceMethod yX3_isHeard, Cond.selects RX3 yX3_isHeard yX3_isHeard]
def wsX3_sing_r3 : List Cond := [Cond.code yX3_isHeard cX3_isHeard 6 (some .boolean), Cond.methodLink RX3 97 yX1_water, Cond.instanceMethod yX1_water, Cond.selects RX1 yX1_water yX1_water, Cond.code yX1_water cX1_water 1 (some .int), Cond.fieldLink RX1 16 "GorgeRow$Path" "water" "I", Cond.methodLink RX3 73 yX3_quiet, Cond.instanceMethod yX3_quiet, Cond.selects RX3 yX3_quiet yX3_quiet, Cond.code yX3_quiet cX3_quiet 2 (some .int), Cond.fieldLink RX3 15 "GorgeRow$Walk" "quiets" "I", Cond.methodLink RX3 70 yX3_setQuiet, Cond.instanceMethod yX3_setQuiet, Cond.selects RX3 yX3_setQuiet yX3_setQuiet, Cond.code yX3_setQuiet cX3_setQuiet 3 none, Cond.methodLink RX3 106 yX0_with, Cond.static yX0_with, Cond.code yX0_with cX0_with 3 (some .int), Cond.methodLink RX3 94 yX3_turnRound, Cond.instanceMethod yX3_turnRound, Cond.selects RX3 yX3_turnRound yX3_turnRound, Cond.code yX3_turnRound cX3_turnRound 4 (some .int), Cond.methodLink RX3 100 yX1_nerve, Cond.instanceMethod yX1_nerve]
def wsX3_sing_r4 : List Cond := [Cond.selects RX1 yX1_nerve yX1_nerve, Cond.code yX1_nerve cX1_nerve 2 (some .int), Cond.fieldLink RX1 19 "GorgeRow$Path" "nerves" "I", Cond.methodLink RX3 103 yX0_without, Cond.static yX0_without, Cond.code yX0_without cX0_without 3 (some .int)]
def wsX3_sing : List Cond := .code yX3_sing cX3_sing 6 (some .int) :: ((wsX3_sing_r1 ++ (wsX3_sing_r2 ++ (wsX3_sing_r3 ++ wsX3_sing_r4))) ++ wsX30 ++ wsX10)
def wsX4_init_r1 : List Cond := [Cond.methodLink RX4 1 objectInit, Cond.instanceMethod objectInit, Cond.code objectInit ⟨#[0xb1]⟩ 1 none, Cond.classLink RX4 7 RX2, Cond.instantiable RX2 2, Cond.initialized RX2, Cond.fieldLink RX4 10 "GorgeRow" "text" "LGorgeRow$Text;", Cond.classLink RX4 16 RX1, Cond.instantiable RX1 5, Cond.initialized RX1, Cond.fieldLink RX4 19 "GorgeRow" "path" "LGorgeRow$Path;", Cond.classLink RX4 23 RX3, Cond.instantiable RX3 5, Cond.initialized RX3, Cond.fieldLink RX4 28 "GorgeRow" "now" "LGorgeRow$Walk;", Cond.fieldLink RX4 32 "GorgeRow" "trial" "LGorgeRow$Walk;", Cond.arrayClass .long, Cond.fieldLink RX4 35 "GorgeRow" "acts" "[J", Cond.fieldLink RX4 39 "GorgeRow" "actCount" "I", Cond.constantLong RX4 43 (-1), Cond.fieldLink RX4 45 "GorgeRow" "kept" "[J", Cond.fieldLink RX4 48 "GorgeRow" "heardMinutes" "I", Cond.fieldLink RX4 51 "GorgeRow" "silentMinutes" "I", Cond.fieldLink RX4 54 "GorgeRow" "toldCount" "I"]
def wsX4_init_r2 : List Cond := [Cond.fieldLink RX4 57 "GorgeRow" "seedNow" "J", Cond.instanceMethod yX2_init, Cond.code yX2_init cX2_init 1 none, Cond.methodLink RX2 3 objectInit, Cond.arrayClass .int, Cond.fieldLink RX2 9 "GorgeRow$Text" "bytes" "[I", Cond.fieldLink RX2 15 "GorgeRow$Text" "length" "I", Cond.instanceMethod yX1_init, Cond.code yX1_init cX1_init 1 none, Cond.methodLink RX1 1 objectInit, Cond.fieldLink RX1 7 "GorgeRow$Path" "walkers" "I", Cond.fieldLink RX1 13 "GorgeRow$Path" "light" "I", Cond.fieldLink RX1 16 "GorgeRow$Path" "water" "I", Cond.fieldLink RX1 19 "GorgeRow$Path" "nerves" "I", Cond.fieldLink RX1 22 "GorgeRow$Path" "kinds" "I", Cond.methodLink RX4 25 yX3_init, Cond.instanceMethod yX3_init, Cond.code yX3_init cX3_init 2 none, Cond.methodLink RX3 5 objectInit, Cond.fieldLink RX3 11 "GorgeRow$Walk" "row" "I", Cond.fieldLink RX3 15 "GorgeRow$Walk" "quiets" "I", Cond.fieldLink RX3 18 "GorgeRow$Walk" "place" "I", Cond.fieldLink RX3 21 "GorgeRow$Walk" "turned" "I", Cond.fieldLink RX3 24 "GorgeRow$Walk" "path" "LGorgeRow$Path;"]
def wsX4_init : List Cond := .code yX4_init cX4_init 1 none :: ((wsX4_init_r1 ++ wsX4_init_r2) ++ wsX20 ++ wsX40 ++ wsX10 ++ wsX30)
def wsX4_write : List Cond := .code yX4_write cX4_write 2 (some .int) :: ([.fieldLink RX4 10 "GorgeRow" "text" "LGorgeRow$Text;", .methodLink RX4 61 yX4_within, .static yX4_within, .initialized RX4, .code yX4_within cX4_within 3 (some .boolean), .methodLink RX4 65 yX2_append, .instanceMethod yX2_append, .selects RX2 yX2_append yX2_append, .initialized RX2, .code yX2_append cX2_append 2 (some .boolean), .fieldLink RX2 15 "GorgeRow$Text" "length" "I", .fieldLink RX2 9 "GorgeRow$Text" "bytes" "[I", .methodLink RX4 69 yX2_length, .instanceMethod yX2_length, .selects RX2 yX2_length yX2_length, .code yX2_length cX2_length 1 (some .int)] ++ wsX40 ++ wsX20)
def wsX4_wipe : List Cond := .code yX4_wipe cX4_wipe 2 (some .int) :: ([.fieldLink RX4 10 "GorgeRow" "text" "LGorgeRow$Text;", .methodLink RX4 69 yX2_length, .instanceMethod yX2_length, .selects RX2 yX2_length yX2_length, .initialized RX2, .code yX2_length cX2_length 1 (some .int), .fieldLink RX2 15 "GorgeRow$Text" "length" "I", .methodLink RX4 73 yX2_clear, .instanceMethod yX2_clear, .selects RX2 yX2_clear yX2_clear, .code yX2_clear cX2_clear 1 none] ++ wsX40 ++ wsX20)
def wsX4_fault_r1 : List Cond := [Cond.fieldLink RX4 10 "GorgeRow" "text" "LGorgeRow$Text;", Cond.methodLink RX4 76 yX2_firstFault, Cond.instanceMethod yX2_firstFault, Cond.selects RX2 yX2_firstFault yX2_firstFault, Cond.initialized RX2, Cond.code yX2_firstFault cX2_firstFault 2 (some .int), Cond.fieldLink RX2 15 "GorgeRow$Text" "length" "I", Cond.methodLink RX2 26 yX2_fits, Cond.instanceMethod yX2_fits, Cond.selects RX2 yX2_fits yX2_fits, Cond.code yX2_fits cX2_fits 2 (some .boolean), Cond.methodLink RX2 19 yX2_byteAt, Cond.instanceMethod yX2_byteAt, Cond.selects RX2 yX2_byteAt yX2_byteAt, Cond.code yX2_byteAt cX2_byteAt 2 (some .int), Cond.fieldLink RX2 9 "GorgeRow$Text" "bytes" "[I", Cond.methodLink RX2 23 yX2_figure, Cond.instanceMethod yX2_figure, Cond.selects RX2 yX2_figure yX2_figure, Cond.code yX2_figure cX2_figure 2 (some .int), Cond.static yX4_within, Cond.initialized RX4, Cond.code yX4_within cX4_within 3 (some .boolean), Cond.methodLink RX2 34 yX2_fitsPart]
def wsX4_fault_r2 : List Cond := [Cond.instanceMethod yX2_fitsPart, Cond.selects RX2 yX2_fitsPart yX2_fitsPart, Cond.code yX2_fitsPart cX2_fitsPart 2 (some .boolean)]
def wsX4_fault : List Cond := .code yX4_fault cX4_fault 1 (some .int) :: ((wsX4_fault_r1 ++ wsX4_fault_r2) ++ wsX40 ++ wsX20)
def wsX4_forgetKept : List Cond := .code yX4_forgetKept cX4_forgetKept 2 none :: ([.fieldLink RX4 45 "GorgeRow" "kept" "[J", .constantLong RX4 43 (-1)] ++ wsX40)
def wsX4_gorge_r1 : List Cond := [Cond.fieldLink RX4 10 "GorgeRow" "text" "LGorgeRow$Text;", Cond.fieldLink RX4 19 "GorgeRow" "path" "LGorgeRow$Path;", Cond.fieldLink RX4 28 "GorgeRow" "now" "LGorgeRow$Walk;", Cond.fieldLink RX4 39 "GorgeRow" "actCount" "I", Cond.methodLink RX4 76 yX2_firstFault, Cond.instanceMethod yX2_firstFault, Cond.selects RX2 yX2_firstFault yX2_firstFault, Cond.initialized RX2, Cond.code yX2_firstFault cX2_firstFault 2 (some .int), Cond.fieldLink RX2 15 "GorgeRow$Text" "length" "I", Cond.methodLink RX2 26 yX2_fits, Cond.instanceMethod yX2_fits, Cond.selects RX2 yX2_fits yX2_fits, Cond.code yX2_fits cX2_fits 2 (some .boolean), Cond.methodLink RX2 19 yX2_byteAt, Cond.instanceMethod yX2_byteAt, Cond.selects RX2 yX2_byteAt yX2_byteAt, Cond.code yX2_byteAt cX2_byteAt 2 (some .int), Cond.fieldLink RX2 9 "GorgeRow$Text" "bytes" "[I", Cond.methodLink RX2 23 yX2_figure, Cond.instanceMethod yX2_figure, Cond.selects RX2 yX2_figure yX2_figure, Cond.code yX2_figure cX2_figure 2 (some .int), Cond.static yX4_within]
def wsX4_gorge_r2 : List Cond := [Cond.initialized RX4, Cond.code yX4_within cX4_within 3 (some .boolean), Cond.methodLink RX2 34 yX2_fitsPart, Cond.instanceMethod yX2_fitsPart, Cond.selects RX2 yX2_fitsPart yX2_fitsPart, Cond.code yX2_fitsPart cX2_fitsPart 2 (some .boolean), Cond.methodLink RX4 79 yX1_read, Cond.instanceMethod yX1_read, Cond.selects RX1 yX1_read yX1_read, Cond.initialized RX1, Cond.code yX1_read cX1_read 3 none, Cond.fieldLink RX1 13 "GorgeRow$Path" "light" "I", Cond.fieldLink RX1 16 "GorgeRow$Path" "water" "I", Cond.fieldLink RX1 7 "GorgeRow$Path" "walkers" "I", Cond.fieldLink RX1 19 "GorgeRow$Path" "nerves" "I", Cond.fieldLink RX1 22 "GorgeRow$Path" "kinds" "I", Cond.methodLink RX1 25 yX2_figure, Cond.methodLink RX1 31 yX2_parts, Cond.instanceMethod yX2_parts, Cond.selects RX2 yX2_parts yX2_parts, Cond.code yX2_parts cX2_parts 1 (some .int), Cond.methodLink RX1 35 yX2_nerve, Cond.instanceMethod yX2_nerve, Cond.selects RX2 yX2_nerve yX2_nerve]
def wsX4_gorge_r3 : List Cond := [Cond.code yX2_nerve cX2_nerve 2 (some .int), Cond.methodLink RX1 38 yX0_with, Cond.static yX0_with, Cond.initialized RX0, Cond.code yX0_with cX0_with 3 (some .int), Cond.methodLink RX1 44 yX2_kind, Cond.instanceMethod yX2_kind, Cond.selects RX2 yX2_kind yX2_kind, Cond.code yX2_kind cX2_kind 2 (some .int), Cond.methodLink RX4 83 yX3_start, Cond.instanceMethod yX3_start, Cond.selects RX3 yX3_start yX3_start, Cond.initialized RX3, Cond.code yX3_start cX3_start 1 none, Cond.fieldLink RX3 24 "GorgeRow$Walk" "path" "LGorgeRow$Path;", Cond.methodLink RX3 55 yX1_everybody, Cond.instanceMethod yX1_everybody, Cond.selects RX1 yX1_everybody yX1_everybody, Cond.code yX1_everybody cX1_everybody 1 (some .int), Cond.methodLink RX3 58 yX0_ascending, Cond.static yX0_ascending, Cond.code yX0_ascending cX0_ascending 4 (some .int), Cond.methodLink RX0 15 yX0_with, Cond.methodLink RX3 61 yX3_lineUp]
def wsX4_gorge_r4 : List Cond := [Cond.instanceMethod yX3_lineUp, Cond.selects RX3 yX3_lineUp yX3_lineUp, Cond.code yX3_lineUp cX3_lineUp 3 none, Cond.fieldLink RX3 11 "GorgeRow$Walk" "row" "I", Cond.fieldLink RX3 15 "GorgeRow$Walk" "quiets" "I", Cond.fieldLink RX3 18 "GorgeRow$Walk" "place" "I", Cond.methodLink RX4 86 yX4_forgetKept, Cond.instanceMethod yX4_forgetKept, Cond.selects RX4 yX4_forgetKept yX4_forgetKept, Cond.code yX4_forgetKept cX4_forgetKept 2 none, Cond.fieldLink RX4 45 "GorgeRow" "kept" "[J", Cond.constantLong RX4 43 (-1), Cond.methodLink RX4 89 yX1_walkers, Cond.instanceMethod yX1_walkers, Cond.selects RX1 yX1_walkers yX1_walkers, Cond.code yX1_walkers cX1_walkers 1 (some .int)]
def wsX4_gorge : List Cond := .code yX4_gorge cX4_gorge 1 (some .int) :: ((wsX4_gorge_r1 ++ (wsX4_gorge_r2 ++ (wsX4_gorge_r3 ++ wsX4_gorge_r4))) ++ wsX40 ++ wsX20 ++ wsX10 ++ wsX30)
def wsX4_about_r1 : List Cond := [Cond.fieldLink RX4 19 "GorgeRow" "path" "LGorgeRow$Path;", Cond.fieldLink RX4 28 "GorgeRow" "now" "LGorgeRow$Walk;", Cond.fieldLink RX4 39 "GorgeRow" "actCount" "I", Cond.fieldLink RX4 54 "GorgeRow" "toldCount" "I", Cond.fieldLink RX4 10 "GorgeRow" "text" "LGorgeRow$Text;", Cond.methodLink RX4 89 yX1_walkers, Cond.instanceMethod yX1_walkers, Cond.selects RX1 yX1_walkers yX1_walkers, Cond.initialized RX1, Cond.code yX1_walkers cX1_walkers 1 (some .int), Cond.fieldLink RX1 7 "GorgeRow$Path" "walkers" "I", Cond.methodLink RX4 92 yX1_light, Cond.instanceMethod yX1_light, Cond.selects RX1 yX1_light yX1_light, Cond.code yX1_light cX1_light 1 (some .int), Cond.fieldLink RX1 13 "GorgeRow$Path" "light" "I", Cond.methodLink RX4 95 yX1_water, Cond.instanceMethod yX1_water, Cond.selects RX1 yX1_water yX1_water, Cond.code yX1_water cX1_water 1 (some .int), Cond.fieldLink RX1 16 "GorgeRow$Path" "water" "I", Cond.methodLink RX4 98 yX3_place, Cond.instanceMethod yX3_place, Cond.selects RX3 yX3_place yX3_place]
def wsX4_about_r2 : List Cond := [Cond.initialized RX3, Cond.code yX3_place cX3_place 1 (some .int), Cond.fieldLink RX3 18 "GorgeRow$Walk" "place" "I", Cond.methodLink RX4 101 yX3_members, Cond.instanceMethod yX3_members, Cond.selects RX3 yX3_members yX3_members, Cond.code yX3_members cX3_members 1 (some .int), Cond.fieldLink RX3 11 "GorgeRow$Walk" "row" "I", Cond.methodLink RX3 34 yX0_members, Cond.static yX0_members, Cond.initialized RX0, Cond.code yX0_members cX0_members 3 (some .int), Cond.methodLink RX0 19 yX0_size, Cond.static yX0_size, Cond.code yX0_size cX0_size 2 (some .int), Cond.methodLink RX0 9 yX0_at, Cond.static yX0_at, Cond.code yX0_at cX0_at 2 (some .int), Cond.methodLink RX4 104 yX1_everybody, Cond.instanceMethod yX1_everybody, Cond.selects RX1 yX1_everybody yX1_everybody, Cond.code yX1_everybody cX1_everybody 1 (some .int), Cond.methodLink RX4 107 yX3_row, Cond.instanceMethod yX3_row]
def wsX4_about_r3 : List Cond := [Cond.selects RX3 yX3_row yX3_row, Cond.code yX3_row cX3_row 1 (some .int), Cond.methodLink RX4 110 yX0_figures, Cond.static yX0_figures, Cond.code yX0_figures cX0_figures 3 (some .int), Cond.methodLink RX4 69 yX2_length, Cond.instanceMethod yX2_length, Cond.selects RX2 yX2_length yX2_length, Cond.initialized RX2, Cond.code yX2_length cX2_length 1 (some .int), Cond.fieldLink RX2 15 "GorgeRow$Text" "length" "I", Cond.methodLink RX4 116 yX3_isOut, Cond.instanceMethod yX3_isOut, Cond.selects RX3 yX3_isOut yX3_isOut, Cond.code yX3_isOut cX3_isOut 1 (some .boolean), Cond.fieldLink RX3 24 "GorgeRow$Walk" "path" "LGorgeRow$Path;", Cond.methodLink RX3 37 yX1_light]
def wsX4_about : List Cond := .code yX4_about cX4_about 2 (some .int) :: ((wsX4_about_r1 ++ (wsX4_about_r2 ++ wsX4_about_r3)) ++ wsX40 ++ wsX10 ++ wsX30 ++ wsX20)
def wsX4_walker_r1 : List Cond := [Cond.fieldLink RX4 19 "GorgeRow" "path" "LGorgeRow$Path;", Cond.fieldLink RX4 28 "GorgeRow" "now" "LGorgeRow$Walk;", Cond.methodLink RX4 120 yX1_has, Cond.instanceMethod yX1_has, Cond.selects RX1 yX1_has yX1_has, Cond.initialized RX1, Cond.code yX1_has cX1_has 2 (some .boolean), Cond.fieldLink RX1 7 "GorgeRow$Path" "walkers" "I", Cond.static yX4_within, Cond.initialized RX4, Cond.code yX4_within cX4_within 3 (some .boolean), Cond.methodLink RX4 123 yX1_nerve, Cond.instanceMethod yX1_nerve, Cond.selects RX1 yX1_nerve yX1_nerve, Cond.code yX1_nerve cX1_nerve 2 (some .int), Cond.fieldLink RX1 19 "GorgeRow$Path" "nerves" "I", Cond.methodLink RX1 53 yX0_at, Cond.static yX0_at, Cond.initialized RX0, Cond.code yX0_at cX0_at 2 (some .int), Cond.methodLink RX4 126 yX1_kind, Cond.instanceMethod yX1_kind, Cond.selects RX1 yX1_kind yX1_kind, Cond.code yX1_kind cX1_kind 2 (some .int)]
def wsX4_walker_r2 : List Cond := [Cond.fieldLink RX1 22 "GorgeRow$Path" "kinds" "I", Cond.methodLink RX4 129 yX3_quiet, Cond.instanceMethod yX3_quiet, Cond.selects RX3 yX3_quiet yX3_quiet, Cond.initialized RX3, Cond.code yX3_quiet cX3_quiet 2 (some .int), Cond.fieldLink RX3 15 "GorgeRow$Walk" "quiets" "I", Cond.methodLink RX3 43 yX0_at, Cond.methodLink RX4 132 yX3_indexOf, Cond.instanceMethod yX3_indexOf, Cond.selects RX3 yX3_indexOf yX3_indexOf, Cond.code yX3_indexOf cX3_indexOf 3 (some .int), Cond.methodLink RX3 47 yX3_size, Cond.instanceMethod yX3_size, Cond.selects RX3 yX3_size yX3_size, Cond.code yX3_size cX3_size 1 (some .int), Cond.fieldLink RX3 11 "GorgeRow$Walk" "row" "I", Cond.methodLink RX3 28 yX0_size, Cond.static yX0_size, Cond.code yX0_size cX0_size 2 (some .int), Cond.methodLink RX0 9 yX0_at, Cond.methodLink RX3 49 yX3_walkerAt, Cond.instanceMethod yX3_walkerAt, Cond.selects RX3 yX3_walkerAt yX3_walkerAt]
def wsX4_walker_r3 : List Cond := [Cond.code yX3_walkerAt cX3_walkerAt 2 (some .int), Cond.methodLink RX4 135 yX3_behind, Cond.instanceMethod yX3_behind, Cond.selects RX3 yX3_behind yX3_behind, Cond.code yX3_behind cX3_behind 3 (some .int), Cond.methodLink RX3 52 yX3_indexOf]
def wsX4_walker : List Cond := .code yX4_walker cX4_walker 3 (some .int) :: ((wsX4_walker_r1 ++ (wsX4_walker_r2 ++ wsX4_walker_r3)) ++ wsX40 ++ wsX10 ++ wsX30)
def wsX4_remember : List Cond := .code yX4_remember cX4_remember 1 none :: ([.fieldLink RX4 39 "GorgeRow" "actCount" "I", .fieldLink RX4 35 "GorgeRow" "acts" "[J", .methodLink RX4 158 arraycopyName, .native arraycopyName, .static arraycopyName, .initialized "java/lang/System", .fieldLink RX4 28 "GorgeRow" "now" "LGorgeRow$Walk;", .methodLink RX4 164 yX3_state, .instanceMethod yX3_state, .selects RX3 yX3_state yX3_state, .initialized RX3, .code yX3_state cX3_state 1 (some .long), .fieldLink RX3 18 "GorgeRow$Walk" "place" "I", .fieldLink RX3 15 "GorgeRow$Walk" "quiets" "I", .fieldLink RX3 11 "GorgeRow$Walk" "row" "I"] ++ wsX40 ++ wsX30)
def wsX4_minute_r1 : List Cond := [Cond.fieldLink RX4 19 "GorgeRow" "path" "LGorgeRow$Path;", Cond.fieldLink RX4 28 "GorgeRow" "now" "LGorgeRow$Walk;", Cond.methodLink RX4 104 yX1_everybody, Cond.instanceMethod yX1_everybody, Cond.selects RX1 yX1_everybody yX1_everybody, Cond.initialized RX1, Cond.code yX1_everybody cX1_everybody 1 (some .int), Cond.fieldLink RX1 7 "GorgeRow$Path" "walkers" "I", Cond.methodLink RX4 61 yX4_within, Cond.static yX4_within, Cond.initialized RX4, Cond.code yX4_within cX4_within 3 (some .boolean), Cond.methodLink RX4 116 yX3_isOut, Cond.instanceMethod yX3_isOut, Cond.selects RX3 yX3_isOut yX3_isOut, Cond.initialized RX3, Cond.code yX3_isOut cX3_isOut 1 (some .boolean), Cond.fieldLink RX3 18 "GorgeRow$Walk" "place" "I", Cond.fieldLink RX3 24 "GorgeRow$Walk" "path" "LGorgeRow$Path;", Cond.methodLink RX3 37 yX1_light, Cond.instanceMethod yX1_light, Cond.selects RX1 yX1_light yX1_light, Cond.code yX1_light cX1_light 1 (some .int), Cond.fieldLink RX1 13 "GorgeRow$Path" "light" "I"]
def wsX4_minute_r2 : List Cond := [Cond.methodLink RX4 138 yX4_remember, Cond.instanceMethod yX4_remember, Cond.selects RX4 yX4_remember yX4_remember, Cond.code yX4_remember cX4_remember 1 none, Cond.fieldLink RX4 39 "GorgeRow" "actCount" "I", Cond.fieldLink RX4 35 "GorgeRow" "acts" "[J", Cond.methodLink RX4 158 arraycopyName, Cond.native arraycopyName, Cond.static arraycopyName, Cond.initialized "java/lang/System", Cond.methodLink RX4 164 yX3_state, Cond.instanceMethod yX3_state, Cond.selects RX3 yX3_state yX3_state, Cond.code yX3_state cX3_state 1 (some .long), Cond.fieldLink RX3 15 "GorgeRow$Walk" "quiets" "I", Cond.fieldLink RX3 11 "GorgeRow$Walk" "row" "I", Cond.methodLink RX4 141 yX3_step, Cond.instanceMethod yX3_step, Cond.selects RX3 yX3_step yX3_step, Cond.code yX3_step cX3_step 6 (some .int), Cond.methodLink RX3 47 yX3_size, Cond.instanceMethod yX3_size, Cond.selects RX3 yX3_size yX3_size, Cond.code yX3_size cX3_size 1 (some .int)]
def wsX4_minute_r3 : List Cond := [Cond.methodLink RX3 28 yX0_size, Cond.static yX0_size, Cond.initialized RX0, Cond.code yX0_size cX0_size 2 (some .int), Cond.methodLink RX0 9 yX0_at, Cond.static yX0_at, Cond.code yX0_at cX0_at 2 (some .int), Cond.methodLink RX3 49 yX3_walkerAt, Cond.instanceMethod yX3_walkerAt, Cond.selects RX3 yX3_walkerAt yX3_walkerAt, Cond.code yX3_walkerAt cX3_walkerAt 2 (some .int), Cond.methodLink RX3 43 yX0_at, Cond.methodLink RX3 87 yX1_kind, Cond.instanceMethod yX1_kind, Cond.selects RX1 yX1_kind yX1_kind, Cond.code yX1_kind cX1_kind 2 (some .int), Cond.fieldLink RX1 22 "GorgeRow$Path" "kinds" "I", Cond.methodLink RX1 53 yX0_at, Cond.methodLink RX3 90 yX3_isHeard, Cond.instanceMethod yX3_isHeard, Cond.selects RX3 yX3_isHeard yX3_isHeard, Cond.code yX3_isHeard cX3_isHeard 6 (some .boolean), Cond.methodLink RX3 97 yX1_water, Cond.instanceMethod yX1_water]
def wsX4_minute_r4 : List Cond := [Cond.selects RX1 yX1_water yX1_water, Cond.code yX1_water cX1_water 1 (some .int), Cond.fieldLink RX1 16 "GorgeRow$Path" "water" "I", Cond.methodLink RX3 73 yX3_quiet, Cond.instanceMethod yX3_quiet, Cond.selects RX3 yX3_quiet yX3_quiet, Cond.code yX3_quiet cX3_quiet 2 (some .int), Cond.methodLink RX3 70 yX3_setQuiet, Cond.instanceMethod yX3_setQuiet, Cond.selects RX3 yX3_setQuiet yX3_setQuiet, Cond.code yX3_setQuiet cX3_setQuiet 3 none, Cond.methodLink RX3 106 yX0_with, Cond.static yX0_with, Cond.code yX0_with cX0_with 3 (some .int), Cond.methodLink RX3 94 yX3_turnRound, Cond.instanceMethod yX3_turnRound, Cond.selects RX3 yX3_turnRound yX3_turnRound, Cond.code yX3_turnRound cX3_turnRound 4 (some .int), Cond.fieldLink RX3 21 "GorgeRow$Walk" "turned" "I", Cond.methodLink RX3 100 yX1_nerve, Cond.instanceMethod yX1_nerve, Cond.selects RX1 yX1_nerve yX1_nerve, Cond.code yX1_nerve cX1_nerve 2 (some .int), Cond.fieldLink RX1 19 "GorgeRow$Path" "nerves" "I"]
def wsX4_minute_r5 : List Cond := [Cond.methodLink RX3 103 yX0_without, Cond.static yX0_without, Cond.code yX0_without cX0_without 3 (some .int)]
def wsX4_minute : List Cond := .code yX4_minute cX4_minute 2 (some .int) :: ((wsX4_minute_r1 ++ (wsX4_minute_r2 ++ (wsX4_minute_r3 ++ (wsX4_minute_r4 ++ wsX4_minute_r5)))) ++ wsX40 ++ wsX10 ++ wsX30)
def wsX4_change_r1 : List Cond := [Cond.fieldLink RX4 28 "GorgeRow" "now" "LGorgeRow$Walk;", Cond.methodLink RX4 61 yX4_within, Cond.static yX4_within, Cond.initialized RX4, Cond.code yX4_within cX4_within 3 (some .boolean), Cond.methodLink RX4 116 yX3_isOut, Cond.instanceMethod yX3_isOut, Cond.selects RX3 yX3_isOut yX3_isOut, Cond.initialized RX3, Cond.code yX3_isOut cX3_isOut 1 (some .boolean), Cond.fieldLink RX3 18 "GorgeRow$Walk" "place" "I", Cond.fieldLink RX3 24 "GorgeRow$Walk" "path" "LGorgeRow$Path;", Cond.methodLink RX3 37 yX1_light, Cond.instanceMethod yX1_light, Cond.selects RX1 yX1_light yX1_light, Cond.initialized RX1, Cond.code yX1_light cX1_light 1 (some .int), Cond.fieldLink RX1 13 "GorgeRow$Path" "light" "I", Cond.methodLink RX4 144 yX3_size, Cond.instanceMethod yX3_size, Cond.selects RX3 yX3_size yX3_size, Cond.code yX3_size cX3_size 1 (some .int), Cond.fieldLink RX3 11 "GorgeRow$Walk" "row" "I", Cond.methodLink RX3 28 yX0_size]
def wsX4_change_r2 : List Cond := [Cond.static yX0_size, Cond.initialized RX0, Cond.code yX0_size cX0_size 2 (some .int), Cond.methodLink RX0 9 yX0_at, Cond.static yX0_at, Cond.code yX0_at cX0_at 2 (some .int), Cond.methodLink RX4 138 yX4_remember, Cond.instanceMethod yX4_remember, Cond.selects RX4 yX4_remember yX4_remember, Cond.code yX4_remember cX4_remember 1 none, Cond.fieldLink RX4 39 "GorgeRow" "actCount" "I", Cond.fieldLink RX4 35 "GorgeRow" "acts" "[J", Cond.methodLink RX4 158 arraycopyName, Cond.native arraycopyName, Cond.static arraycopyName, Cond.initialized "java/lang/System", Cond.methodLink RX4 164 yX3_state, Cond.instanceMethod yX3_state, Cond.selects RX3 yX3_state yX3_state, Cond.code yX3_state cX3_state 1 (some .long), Cond.fieldLink RX3 15 "GorgeRow$Walk" "quiets" "I", Cond.methodLink RX4 147 yX3_changePlaces, Cond.instanceMethod yX3_changePlaces, Cond.selects RX3 yX3_changePlaces yX3_changePlaces]
def wsX4_change_r3 : List Cond := [Cond.code yX3_changePlaces cX3_changePlaces 2 none, Cond.methodLink RX3 66 yX0_swapped, Cond.static yX0_swapped, Cond.code yX0_swapped cX0_swapped 3 (some .int), Cond.methodLink RX0 15 yX0_with, Cond.static yX0_with, Cond.code yX0_with cX0_with 3 (some .int), Cond.methodLink RX3 49 yX3_walkerAt, Cond.instanceMethod yX3_walkerAt, Cond.selects RX3 yX3_walkerAt yX3_walkerAt, Cond.code yX3_walkerAt cX3_walkerAt 2 (some .int), Cond.methodLink RX3 43 yX0_at, Cond.methodLink RX3 70 yX3_setQuiet, Cond.instanceMethod yX3_setQuiet, Cond.selects RX3 yX3_setQuiet yX3_setQuiet, Cond.code yX3_setQuiet cX3_setQuiet 3 none, Cond.methodLink RX3 106 yX0_with, Cond.methodLink RX4 107 yX3_row, Cond.instanceMethod yX3_row, Cond.selects RX3 yX3_row yX3_row, Cond.code yX3_row cX3_row 1 (some .int), Cond.methodLink RX4 110 yX0_figures, Cond.static yX0_figures, Cond.code yX0_figures cX0_figures 3 (some .int)]
def wsX4_change_r4 : List Cond := [Cond.methodLink RX0 19 yX0_size]
def wsX4_change : List Cond := .code yX4_change cX4_change 2 (some .int) :: ((wsX4_change_r1 ++ (wsX4_change_r2 ++ (wsX4_change_r3 ++ wsX4_change_r4))) ++ wsX40 ++ wsX30 ++ wsX10)
def wsX4_rest_r1 : List Cond := [Cond.fieldLink RX4 28 "GorgeRow" "now" "LGorgeRow$Walk;", Cond.methodLink RX4 116 yX3_isOut, Cond.instanceMethod yX3_isOut, Cond.selects RX3 yX3_isOut yX3_isOut, Cond.initialized RX3, Cond.code yX3_isOut cX3_isOut 1 (some .boolean), Cond.fieldLink RX3 18 "GorgeRow$Walk" "place" "I", Cond.fieldLink RX3 24 "GorgeRow$Walk" "path" "LGorgeRow$Path;", Cond.methodLink RX3 37 yX1_light, Cond.instanceMethod yX1_light, Cond.selects RX1 yX1_light yX1_light, Cond.initialized RX1, Cond.code yX1_light cX1_light 1 (some .int), Cond.fieldLink RX1 13 "GorgeRow$Path" "light" "I", Cond.methodLink RX4 138 yX4_remember, Cond.instanceMethod yX4_remember, Cond.selects RX4 yX4_remember yX4_remember, Cond.initialized RX4, Cond.code yX4_remember cX4_remember 1 none, Cond.fieldLink RX4 39 "GorgeRow" "actCount" "I", Cond.fieldLink RX4 35 "GorgeRow" "acts" "[J", Cond.methodLink RX4 158 arraycopyName, Cond.native arraycopyName, Cond.static arraycopyName]
def wsX4_rest_r2 : List Cond := [Cond.initialized "java/lang/System", Cond.methodLink RX4 164 yX3_state, Cond.instanceMethod yX3_state, Cond.selects RX3 yX3_state yX3_state, Cond.code yX3_state cX3_state 1 (some .long), Cond.fieldLink RX3 15 "GorgeRow$Walk" "quiets" "I", Cond.fieldLink RX3 11 "GorgeRow$Walk" "row" "I", Cond.methodLink RX4 151 yX3_calm, Cond.instanceMethod yX3_calm, Cond.selects RX3 yX3_calm yX3_calm, Cond.code yX3_calm cX3_calm 3 (some .int), Cond.methodLink RX3 47 yX3_size, Cond.instanceMethod yX3_size, Cond.selects RX3 yX3_size yX3_size, Cond.code yX3_size cX3_size 1 (some .int), Cond.methodLink RX3 28 yX0_size, Cond.static yX0_size, Cond.initialized RX0, Cond.code yX0_size cX0_size 2 (some .int), Cond.methodLink RX0 9 yX0_at, Cond.static yX0_at, Cond.code yX0_at cX0_at 2 (some .int), Cond.methodLink RX3 49 yX3_walkerAt, Cond.instanceMethod yX3_walkerAt]
def wsX4_rest_r3 : List Cond := [Cond.selects RX3 yX3_walkerAt yX3_walkerAt, Cond.code yX3_walkerAt cX3_walkerAt 2 (some .int), Cond.methodLink RX3 43 yX0_at, Cond.methodLink RX3 73 yX3_quiet, Cond.instanceMethod yX3_quiet, Cond.selects RX3 yX3_quiet yX3_quiet, Cond.code yX3_quiet cX3_quiet 2 (some .int), Cond.methodLink RX3 70 yX3_setQuiet, Cond.instanceMethod yX3_setQuiet, Cond.selects RX3 yX3_setQuiet yX3_setQuiet, Cond.code yX3_setQuiet cX3_setQuiet 3 none, Cond.methodLink RX3 106 yX0_with, Cond.static yX0_with, Cond.code yX0_with cX0_with 3 (some .int)]
def wsX4_rest : List Cond := .code yX4_rest cX4_rest 1 (some .int) :: ((wsX4_rest_r1 ++ (wsX4_rest_r2 ++ wsX4_rest_r3)) ++ wsX40 ++ wsX30 ++ wsX10)
def wsX4_undo : List Cond := .code yX4_undo cX4_undo 1 (some .int) :: ([.fieldLink RX4 39 "GorgeRow" "actCount" "I", .fieldLink RX4 35 "GorgeRow" "acts" "[J", .fieldLink RX4 28 "GorgeRow" "now" "LGorgeRow$Walk;", .methodLink RX4 61 yX4_within, .static yX4_within, .initialized RX4, .code yX4_within cX4_within 3 (some .boolean), .methodLink RX4 154 yX3_become, .instanceMethod yX3_become, .selects RX3 yX3_become yX3_become, .initialized RX3, .code yX3_become cX3_become 3 none, .constant RX3 65 (1048575), .fieldLink RX3 11 "GorgeRow$Walk" "row" "I", .fieldLink RX3 15 "GorgeRow$Walk" "quiets" "I", .fieldLink RX3 18 "GorgeRow$Walk" "place" "I"] ++ wsX40 ++ wsX30)
def wsX4_isSong : List Cond := .code yX4_isSong cX4_isSong 6 (some .boolean) :: ([.constantLong RX4 209 (100), .constantLong RX4 211 (31), .methodLink RX4 61 yX4_within, .static yX4_within, .initialized RX4, .code yX4_within cX4_within 3 (some .boolean)])
def wsX4_left_r1 : List Cond := [Cond.fieldLink RX4 32 "GorgeRow" "trial" "LGorgeRow$Walk;", Cond.fieldLink RX4 28 "GorgeRow" "now" "LGorgeRow$Walk;", Cond.methodLink RX4 168 yX4_isSong, Cond.static yX4_isSong, Cond.initialized RX4, Cond.code yX4_isSong cX4_isSong 6 (some .boolean), Cond.constantLong RX4 209 (100), Cond.constantLong RX4 211 (31), Cond.methodLink RX4 61 yX4_within, Cond.static yX4_within, Cond.code yX4_within cX4_within 3 (some .boolean), Cond.methodLink RX4 164 yX3_state, Cond.instanceMethod yX3_state, Cond.selects RX3 yX3_state yX3_state, Cond.initialized RX3, Cond.code yX3_state cX3_state 1 (some .long), Cond.fieldLink RX3 18 "GorgeRow$Walk" "place" "I", Cond.fieldLink RX3 15 "GorgeRow$Walk" "quiets" "I", Cond.fieldLink RX3 11 "GorgeRow$Walk" "row" "I", Cond.methodLink RX4 154 yX3_become, Cond.instanceMethod yX3_become, Cond.selects RX3 yX3_become yX3_become, Cond.code yX3_become cX3_become 3 none, Cond.constant RX3 65 (1048575)]
def wsX4_left_r2 : List Cond := [Cond.methodLink RX4 172 yX3_sing, Cond.instanceMethod yX3_sing, Cond.selects RX3 yX3_sing yX3_sing, Cond.code yX3_sing cX3_sing 6 (some .int), Cond.fieldLink RX3 21 "GorgeRow$Walk" "turned" "I", Cond.methodLink RX3 76 yX3_isOut, Cond.instanceMethod yX3_isOut, Cond.selects RX3 yX3_isOut yX3_isOut, Cond.code yX3_isOut cX3_isOut 1 (some .boolean), Cond.fieldLink RX3 24 "GorgeRow$Walk" "path" "LGorgeRow$Path;", Cond.methodLink RX3 37 yX1_light, Cond.instanceMethod yX1_light, Cond.selects RX1 yX1_light yX1_light, Cond.initialized RX1, Cond.code yX1_light cX1_light 1 (some .int), Cond.fieldLink RX1 13 "GorgeRow$Path" "light" "I", Cond.methodLink RX3 80 yX3_treadsOf, Cond.static yX3_treadsOf, Cond.code yX3_treadsOf cX3_treadsOf 6 (some .int), Cond.constantLong RX3 109 (100), Cond.methodLink RX3 84 yX3_step, Cond.instanceMethod yX3_step, Cond.selects RX3 yX3_step yX3_step, Cond.code yX3_step cX3_step 6 (some .int)]
def wsX4_left_r3 : List Cond := [Cond.methodLink RX3 47 yX3_size, Cond.instanceMethod yX3_size, Cond.selects RX3 yX3_size yX3_size, Cond.code yX3_size cX3_size 1 (some .int), Cond.methodLink RX3 28 yX0_size, Cond.static yX0_size, Cond.initialized RX0, Cond.code yX0_size cX0_size 2 (some .int), Cond.methodLink RX0 9 yX0_at, Cond.static yX0_at, Cond.code yX0_at cX0_at 2 (some .int), Cond.methodLink RX3 49 yX3_walkerAt, Cond.instanceMethod yX3_walkerAt, Cond.selects RX3 yX3_walkerAt yX3_walkerAt, Cond.code yX3_walkerAt cX3_walkerAt 2 (some .int), Cond.methodLink RX3 43 yX0_at, Cond.methodLink RX3 87 yX1_kind, Cond.instanceMethod yX1_kind, Cond.selects RX1 yX1_kind yX1_kind, Cond.code yX1_kind cX1_kind 2 (some .int), Cond.fieldLink RX1 22 "GorgeRow$Path" "kinds" "I", Cond.methodLink RX1 53 yX0_at, Cond.methodLink RX3 90 yX3_isHeard, Cond.instanceMethod yX3_isHeard]
def wsX4_left_r4 : List Cond := [Cond.selects RX3 yX3_isHeard yX3_isHeard, Cond.code yX3_isHeard cX3_isHeard 6 (some .boolean), Cond.methodLink RX3 97 yX1_water, Cond.instanceMethod yX1_water, Cond.selects RX1 yX1_water yX1_water, Cond.code yX1_water cX1_water 1 (some .int), Cond.fieldLink RX1 16 "GorgeRow$Path" "water" "I", Cond.methodLink RX3 73 yX3_quiet, Cond.instanceMethod yX3_quiet, Cond.selects RX3 yX3_quiet yX3_quiet, Cond.code yX3_quiet cX3_quiet 2 (some .int), Cond.methodLink RX3 70 yX3_setQuiet, Cond.instanceMethod yX3_setQuiet, Cond.selects RX3 yX3_setQuiet yX3_setQuiet, Cond.code yX3_setQuiet cX3_setQuiet 3 none, Cond.methodLink RX3 106 yX0_with, Cond.static yX0_with, Cond.code yX0_with cX0_with 3 (some .int), Cond.methodLink RX3 94 yX3_turnRound, Cond.instanceMethod yX3_turnRound, Cond.selects RX3 yX3_turnRound yX3_turnRound, Cond.code yX3_turnRound cX3_turnRound 4 (some .int), Cond.methodLink RX3 100 yX1_nerve, Cond.instanceMethod yX1_nerve]
def wsX4_left_r5 : List Cond := [Cond.selects RX1 yX1_nerve yX1_nerve, Cond.code yX1_nerve cX1_nerve 2 (some .int), Cond.fieldLink RX1 19 "GorgeRow$Path" "nerves" "I", Cond.methodLink RX3 103 yX0_without, Cond.static yX0_without, Cond.code yX0_without cX0_without 3 (some .int), Cond.methodLink RX4 101 yX3_members, Cond.instanceMethod yX3_members, Cond.selects RX3 yX3_members yX3_members, Cond.code yX3_members cX3_members 1 (some .int), Cond.methodLink RX3 34 yX0_members, Cond.static yX0_members, Cond.code yX0_members cX0_members 3 (some .int), Cond.methodLink RX0 19 yX0_size]
def wsX4_left : List Cond := .code yX4_left cX4_left 4 (some .int) :: ((wsX4_left_r1 ++ (wsX4_left_r2 ++ (wsX4_left_r3 ++ (wsX4_left_r4 ++ wsX4_left_r5)))) ++ wsX40 ++ wsX30 ++ wsX10)
def wsX4_firstTurn_r1 : List Cond := [Cond.fieldLink RX4 32 "GorgeRow" "trial" "LGorgeRow$Walk;", Cond.fieldLink RX4 28 "GorgeRow" "now" "LGorgeRow$Walk;", Cond.methodLink RX4 168 yX4_isSong, Cond.static yX4_isSong, Cond.initialized RX4, Cond.code yX4_isSong cX4_isSong 6 (some .boolean), Cond.constantLong RX4 209 (100), Cond.constantLong RX4 211 (31), Cond.methodLink RX4 61 yX4_within, Cond.static yX4_within, Cond.code yX4_within cX4_within 3 (some .boolean), Cond.methodLink RX4 164 yX3_state, Cond.instanceMethod yX3_state, Cond.selects RX3 yX3_state yX3_state, Cond.initialized RX3, Cond.code yX3_state cX3_state 1 (some .long), Cond.fieldLink RX3 18 "GorgeRow$Walk" "place" "I", Cond.fieldLink RX3 15 "GorgeRow$Walk" "quiets" "I", Cond.fieldLink RX3 11 "GorgeRow$Walk" "row" "I", Cond.methodLink RX4 154 yX3_become, Cond.instanceMethod yX3_become, Cond.selects RX3 yX3_become yX3_become, Cond.code yX3_become cX3_become 3 none, Cond.constant RX3 65 (1048575)]
def wsX4_firstTurn_r2 : List Cond := [Cond.methodLink RX4 172 yX3_sing, Cond.instanceMethod yX3_sing, Cond.selects RX3 yX3_sing yX3_sing, Cond.code yX3_sing cX3_sing 6 (some .int), Cond.fieldLink RX3 21 "GorgeRow$Walk" "turned" "I", Cond.methodLink RX3 76 yX3_isOut, Cond.instanceMethod yX3_isOut, Cond.selects RX3 yX3_isOut yX3_isOut, Cond.code yX3_isOut cX3_isOut 1 (some .boolean), Cond.fieldLink RX3 24 "GorgeRow$Walk" "path" "LGorgeRow$Path;", Cond.methodLink RX3 37 yX1_light, Cond.instanceMethod yX1_light, Cond.selects RX1 yX1_light yX1_light, Cond.initialized RX1, Cond.code yX1_light cX1_light 1 (some .int), Cond.fieldLink RX1 13 "GorgeRow$Path" "light" "I", Cond.methodLink RX3 80 yX3_treadsOf, Cond.static yX3_treadsOf, Cond.code yX3_treadsOf cX3_treadsOf 6 (some .int), Cond.constantLong RX3 109 (100), Cond.methodLink RX3 84 yX3_step, Cond.instanceMethod yX3_step, Cond.selects RX3 yX3_step yX3_step, Cond.code yX3_step cX3_step 6 (some .int)]
def wsX4_firstTurn_r3 : List Cond := [Cond.methodLink RX3 47 yX3_size, Cond.instanceMethod yX3_size, Cond.selects RX3 yX3_size yX3_size, Cond.code yX3_size cX3_size 1 (some .int), Cond.methodLink RX3 28 yX0_size, Cond.static yX0_size, Cond.initialized RX0, Cond.code yX0_size cX0_size 2 (some .int), Cond.methodLink RX0 9 yX0_at, Cond.static yX0_at, Cond.code yX0_at cX0_at 2 (some .int), Cond.methodLink RX3 49 yX3_walkerAt, Cond.instanceMethod yX3_walkerAt, Cond.selects RX3 yX3_walkerAt yX3_walkerAt, Cond.code yX3_walkerAt cX3_walkerAt 2 (some .int), Cond.methodLink RX3 43 yX0_at, Cond.methodLink RX3 87 yX1_kind, Cond.instanceMethod yX1_kind, Cond.selects RX1 yX1_kind yX1_kind, Cond.code yX1_kind cX1_kind 2 (some .int), Cond.fieldLink RX1 22 "GorgeRow$Path" "kinds" "I", Cond.methodLink RX1 53 yX0_at, Cond.methodLink RX3 90 yX3_isHeard, Cond.instanceMethod yX3_isHeard]
def wsX4_firstTurn_r4 : List Cond := [Cond.selects RX3 yX3_isHeard yX3_isHeard, Cond.code yX3_isHeard cX3_isHeard 6 (some .boolean), Cond.methodLink RX3 97 yX1_water, Cond.instanceMethod yX1_water, Cond.selects RX1 yX1_water yX1_water, Cond.code yX1_water cX1_water 1 (some .int), Cond.fieldLink RX1 16 "GorgeRow$Path" "water" "I", Cond.methodLink RX3 73 yX3_quiet, Cond.instanceMethod yX3_quiet, Cond.selects RX3 yX3_quiet yX3_quiet, Cond.code yX3_quiet cX3_quiet 2 (some .int), Cond.methodLink RX3 70 yX3_setQuiet, Cond.instanceMethod yX3_setQuiet, Cond.selects RX3 yX3_setQuiet yX3_setQuiet, Cond.code yX3_setQuiet cX3_setQuiet 3 none, Cond.methodLink RX3 106 yX0_with, Cond.static yX0_with, Cond.code yX0_with cX0_with 3 (some .int), Cond.methodLink RX3 94 yX3_turnRound, Cond.instanceMethod yX3_turnRound, Cond.selects RX3 yX3_turnRound yX3_turnRound, Cond.code yX3_turnRound cX3_turnRound 4 (some .int), Cond.methodLink RX3 100 yX1_nerve, Cond.instanceMethod yX1_nerve]
def wsX4_firstTurn_r5 : List Cond := [Cond.selects RX1 yX1_nerve yX1_nerve, Cond.code yX1_nerve cX1_nerve 2 (some .int), Cond.fieldLink RX1 19 "GorgeRow$Path" "nerves" "I", Cond.methodLink RX3 103 yX0_without, Cond.static yX0_without, Cond.code yX0_without cX0_without 3 (some .int)]
def wsX4_firstTurn : List Cond := .code yX4_firstTurn cX4_firstTurn 4 (some .int) :: ((wsX4_firstTurn_r1 ++ (wsX4_firstTurn_r2 ++ (wsX4_firstTurn_r3 ++ (wsX4_firstTurn_r4 ++ wsX4_firstTurn_r5)))) ++ wsX40 ++ wsX30 ++ wsX10)
def wsX4_leftOf_r1 : List Cond := [Cond.fieldLink RX4 32 "GorgeRow" "trial" "LGorgeRow$Walk;", Cond.fieldLink RX4 28 "GorgeRow" "now" "LGorgeRow$Walk;", Cond.methodLink RX4 98 yX3_place, Cond.instanceMethod yX3_place, Cond.selects RX3 yX3_place yX3_place, Cond.initialized RX3, Cond.code yX3_place cX3_place 1 (some .int), Cond.fieldLink RX3 18 "GorgeRow$Walk" "place" "I", Cond.methodLink RX4 205 yX3_lineUp, Cond.instanceMethod yX3_lineUp, Cond.selects RX3 yX3_lineUp yX3_lineUp, Cond.code yX3_lineUp cX3_lineUp 3 none, Cond.fieldLink RX3 11 "GorgeRow$Walk" "row" "I", Cond.fieldLink RX3 15 "GorgeRow$Walk" "quiets" "I", Cond.methodLink RX4 172 yX3_sing, Cond.instanceMethod yX3_sing, Cond.selects RX3 yX3_sing yX3_sing, Cond.code yX3_sing cX3_sing 6 (some .int), Cond.fieldLink RX3 21 "GorgeRow$Walk" "turned" "I", Cond.methodLink RX3 76 yX3_isOut, Cond.instanceMethod yX3_isOut, Cond.selects RX3 yX3_isOut yX3_isOut, Cond.code yX3_isOut cX3_isOut 1 (some .boolean), Cond.fieldLink RX3 24 "GorgeRow$Walk" "path" "LGorgeRow$Path;"]
def wsX4_leftOf_r2 : List Cond := [Cond.methodLink RX3 37 yX1_light, Cond.instanceMethod yX1_light, Cond.selects RX1 yX1_light yX1_light, Cond.initialized RX1, Cond.code yX1_light cX1_light 1 (some .int), Cond.fieldLink RX1 13 "GorgeRow$Path" "light" "I", Cond.methodLink RX3 80 yX3_treadsOf, Cond.static yX3_treadsOf, Cond.code yX3_treadsOf cX3_treadsOf 6 (some .int), Cond.constantLong RX3 109 (100), Cond.methodLink RX3 84 yX3_step, Cond.instanceMethod yX3_step, Cond.selects RX3 yX3_step yX3_step, Cond.code yX3_step cX3_step 6 (some .int), Cond.methodLink RX3 47 yX3_size, Cond.instanceMethod yX3_size, Cond.selects RX3 yX3_size yX3_size, Cond.code yX3_size cX3_size 1 (some .int), Cond.methodLink RX3 28 yX0_size, Cond.static yX0_size, Cond.initialized RX0, Cond.code yX0_size cX0_size 2 (some .int), Cond.methodLink RX0 9 yX0_at, Cond.static yX0_at]
def wsX4_leftOf_r3 : List Cond := [Cond.code yX0_at cX0_at 2 (some .int), Cond.methodLink RX3 49 yX3_walkerAt, Cond.instanceMethod yX3_walkerAt, Cond.selects RX3 yX3_walkerAt yX3_walkerAt, Cond.code yX3_walkerAt cX3_walkerAt 2 (some .int), Cond.methodLink RX3 43 yX0_at, Cond.methodLink RX3 87 yX1_kind, Cond.instanceMethod yX1_kind, Cond.selects RX1 yX1_kind yX1_kind, Cond.code yX1_kind cX1_kind 2 (some .int), Cond.fieldLink RX1 22 "GorgeRow$Path" "kinds" "I", Cond.methodLink RX1 53 yX0_at, Cond.methodLink RX3 90 yX3_isHeard, Cond.instanceMethod yX3_isHeard, Cond.selects RX3 yX3_isHeard yX3_isHeard, Cond.code yX3_isHeard cX3_isHeard 6 (some .boolean), Cond.methodLink RX3 97 yX1_water, Cond.instanceMethod yX1_water, Cond.selects RX1 yX1_water yX1_water, Cond.code yX1_water cX1_water 1 (some .int), Cond.fieldLink RX1 16 "GorgeRow$Path" "water" "I", Cond.methodLink RX3 73 yX3_quiet, Cond.instanceMethod yX3_quiet, Cond.selects RX3 yX3_quiet yX3_quiet]
def wsX4_leftOf_r4 : List Cond := [Cond.code yX3_quiet cX3_quiet 2 (some .int), Cond.methodLink RX3 70 yX3_setQuiet, Cond.instanceMethod yX3_setQuiet, Cond.selects RX3 yX3_setQuiet yX3_setQuiet, Cond.code yX3_setQuiet cX3_setQuiet 3 none, Cond.methodLink RX3 106 yX0_with, Cond.static yX0_with, Cond.code yX0_with cX0_with 3 (some .int), Cond.methodLink RX3 94 yX3_turnRound, Cond.instanceMethod yX3_turnRound, Cond.selects RX3 yX3_turnRound yX3_turnRound, Cond.code yX3_turnRound cX3_turnRound 4 (some .int), Cond.methodLink RX3 100 yX1_nerve, Cond.instanceMethod yX1_nerve, Cond.selects RX1 yX1_nerve yX1_nerve, Cond.code yX1_nerve cX1_nerve 2 (some .int), Cond.fieldLink RX1 19 "GorgeRow$Path" "nerves" "I", Cond.methodLink RX3 103 yX0_without, Cond.static yX0_without, Cond.code yX0_without cX0_without 3 (some .int), Cond.methodLink RX4 144 yX3_size]
def wsX4_leftOf : List Cond := .code yX4_leftOf cX4_leftOf 5 (some .int) :: ((wsX4_leftOf_r1 ++ (wsX4_leftOf_r2 ++ (wsX4_leftOf_r3 ++ wsX4_leftOf_r4))) ++ wsX40 ++ wsX30 ++ wsX10)
def wsX4_order_r1 : List Cond := [Cond.fieldLink RX4 28 "GorgeRow" "now" "LGorgeRow$Walk;", Cond.methodLink RX4 168 yX4_isSong, Cond.static yX4_isSong, Cond.initialized RX4, Cond.code yX4_isSong cX4_isSong 6 (some .boolean), Cond.constantLong RX4 209 (100), Cond.constantLong RX4 211 (31), Cond.methodLink RX4 61 yX4_within, Cond.static yX4_within, Cond.code yX4_within cX4_within 3 (some .boolean), Cond.methodLink RX4 101 yX3_members, Cond.instanceMethod yX3_members, Cond.selects RX3 yX3_members yX3_members, Cond.initialized RX3, Cond.code yX3_members cX3_members 1 (some .int), Cond.fieldLink RX3 11 "GorgeRow$Walk" "row" "I", Cond.methodLink RX3 34 yX0_members, Cond.static yX0_members, Cond.initialized RX0, Cond.code yX0_members cX0_members 3 (some .int), Cond.methodLink RX0 19 yX0_size, Cond.static yX0_size, Cond.code yX0_size cX0_size 2 (some .int), Cond.methodLink RX0 9 yX0_at]
def wsX4_order_r2 : List Cond := [Cond.static yX0_at, Cond.code yX0_at cX0_at 2 (some .int), Cond.methodLink RX4 176 yX0_ascending, Cond.static yX0_ascending, Cond.code yX0_ascending cX0_ascending 4 (some .int), Cond.methodLink RX0 15 yX0_with, Cond.static yX0_with, Cond.code yX0_with cX0_with 3 (some .int), Cond.methodLink RX4 179 yX4_leftOf, Cond.instanceMethod yX4_leftOf, Cond.selects RX4 yX4_leftOf yX4_leftOf, Cond.code yX4_leftOf cX4_leftOf 5 (some .int), Cond.fieldLink RX4 32 "GorgeRow" "trial" "LGorgeRow$Walk;", Cond.methodLink RX4 98 yX3_place, Cond.instanceMethod yX3_place, Cond.selects RX3 yX3_place yX3_place, Cond.code yX3_place cX3_place 1 (some .int), Cond.fieldLink RX3 18 "GorgeRow$Walk" "place" "I", Cond.methodLink RX4 205 yX3_lineUp, Cond.instanceMethod yX3_lineUp, Cond.selects RX3 yX3_lineUp yX3_lineUp, Cond.code yX3_lineUp cX3_lineUp 3 none, Cond.fieldLink RX3 15 "GorgeRow$Walk" "quiets" "I", Cond.methodLink RX4 172 yX3_sing]
def wsX4_order_r3 : List Cond := [Cond.instanceMethod yX3_sing, Cond.selects RX3 yX3_sing yX3_sing, Cond.code yX3_sing cX3_sing 6 (some .int), Cond.fieldLink RX3 21 "GorgeRow$Walk" "turned" "I", Cond.methodLink RX3 76 yX3_isOut, Cond.instanceMethod yX3_isOut, Cond.selects RX3 yX3_isOut yX3_isOut, Cond.code yX3_isOut cX3_isOut 1 (some .boolean), Cond.fieldLink RX3 24 "GorgeRow$Walk" "path" "LGorgeRow$Path;", Cond.methodLink RX3 37 yX1_light, Cond.instanceMethod yX1_light, Cond.selects RX1 yX1_light yX1_light, Cond.initialized RX1, Cond.code yX1_light cX1_light 1 (some .int), Cond.fieldLink RX1 13 "GorgeRow$Path" "light" "I", Cond.methodLink RX3 80 yX3_treadsOf, Cond.static yX3_treadsOf, Cond.code yX3_treadsOf cX3_treadsOf 6 (some .int), Cond.constantLong RX3 109 (100), Cond.methodLink RX3 84 yX3_step, Cond.instanceMethod yX3_step, Cond.selects RX3 yX3_step yX3_step, Cond.code yX3_step cX3_step 6 (some .int), Cond.methodLink RX3 47 yX3_size]
def wsX4_order_r4 : List Cond := [Cond.instanceMethod yX3_size, Cond.selects RX3 yX3_size yX3_size, Cond.code yX3_size cX3_size 1 (some .int), Cond.methodLink RX3 28 yX0_size, Cond.methodLink RX3 49 yX3_walkerAt, Cond.instanceMethod yX3_walkerAt, Cond.selects RX3 yX3_walkerAt yX3_walkerAt, Cond.code yX3_walkerAt cX3_walkerAt 2 (some .int), Cond.methodLink RX3 43 yX0_at, Cond.methodLink RX3 87 yX1_kind, Cond.instanceMethod yX1_kind, Cond.selects RX1 yX1_kind yX1_kind, Cond.code yX1_kind cX1_kind 2 (some .int), Cond.fieldLink RX1 22 "GorgeRow$Path" "kinds" "I", Cond.methodLink RX1 53 yX0_at, Cond.methodLink RX3 90 yX3_isHeard, Cond.instanceMethod yX3_isHeard, Cond.selects RX3 yX3_isHeard yX3_isHeard, Cond.code yX3_isHeard cX3_isHeard 6 (some .boolean), Cond.methodLink RX3 97 yX1_water, Cond.instanceMethod yX1_water, Cond.selects RX1 yX1_water yX1_water, Cond.code yX1_water cX1_water 1 (some .int), Cond.fieldLink RX1 16 "GorgeRow$Path" "water" "I"]
def wsX4_order_r5 : List Cond := [Cond.methodLink RX3 73 yX3_quiet, Cond.instanceMethod yX3_quiet, Cond.selects RX3 yX3_quiet yX3_quiet, Cond.code yX3_quiet cX3_quiet 2 (some .int), Cond.methodLink RX3 70 yX3_setQuiet, Cond.instanceMethod yX3_setQuiet, Cond.selects RX3 yX3_setQuiet yX3_setQuiet, Cond.code yX3_setQuiet cX3_setQuiet 3 none, Cond.methodLink RX3 106 yX0_with, Cond.methodLink RX3 94 yX3_turnRound, Cond.instanceMethod yX3_turnRound, Cond.selects RX3 yX3_turnRound yX3_turnRound, Cond.code yX3_turnRound cX3_turnRound 4 (some .int), Cond.methodLink RX3 100 yX1_nerve, Cond.instanceMethod yX1_nerve, Cond.selects RX1 yX1_nerve yX1_nerve, Cond.code yX1_nerve cX1_nerve 2 (some .int), Cond.fieldLink RX1 19 "GorgeRow$Path" "nerves" "I", Cond.methodLink RX3 103 yX0_without, Cond.static yX0_without, Cond.code yX0_without cX0_without 3 (some .int), Cond.methodLink RX4 144 yX3_size, Cond.methodLink RX4 183 yX0_nextOrder, Cond.static yX0_nextOrder]
def wsX4_order_r6 : List Cond := [Cond.code yX0_nextOrder cX0_nextOrder 7 (some .int), Cond.methodLink RX0 26 yX0_swapped, Cond.static yX0_swapped, Cond.code yX0_swapped cX0_swapped 3 (some .int), Cond.methodLink RX4 110 yX0_figures, Cond.static yX0_figures, Cond.code yX0_figures cX0_figures 3 (some .int)]
def wsX4_order : List Cond := .code yX4_order cX4_order 10 (some .int) :: ((wsX4_order_r1 ++ (wsX4_order_r2 ++ (wsX4_order_r3 ++ (wsX4_order_r4 ++ (wsX4_order_r5 ++ wsX4_order_r6))))) ++ wsX40 ++ wsX30 ++ wsX10)
def wsX4_commonDivisor : List Cond := .code yX4_commonDivisor cX4_commonDivisor 11 (some .long) :: ([])
def wsX4_fraction : List Cond := .code yX4_fraction cX4_fraction 7 (some .int) :: ([.methodLink RX4 234 Lib.MathLoose.abs_long.x, .static Lib.MathLoose.abs_long.x, .initialized "java/lang/Math", .code Lib.MathLoose.abs_long.x Lib.MathLoose.abs_long.code 2 (some .long), .methodLink RX4 238 yX4_commonDivisor, .static yX4_commonDivisor, .initialized RX4, .code yX4_commonDivisor cX4_commonDivisor 11 (some .long)])
def wsJ6_bitCount_0f7a4 : List Cond := .code yJ6_bitCount_0f7a4 cJ6_bitCount_0f7a4 1 (some .int) :: ([.constant RJ6 265 (1431655765), .constant RJ6 266 (858993459), .constant RJ6 267 (252645135)])
def wsX4_factorial : List Cond := .code yX4_factorial cX4_factorial 3 (some .int) :: ([])
def wsX4_share_r1 : List Cond := [Cond.fieldLink RX4 19 "GorgeRow" "path" "LGorgeRow$Path;", Cond.fieldLink RX4 28 "GorgeRow" "now" "LGorgeRow$Walk;", Cond.methodLink RX4 120 yX1_has, Cond.instanceMethod yX1_has, Cond.selects RX1 yX1_has yX1_has, Cond.initialized RX1, Cond.code yX1_has cX1_has 2 (some .boolean), Cond.fieldLink RX1 7 "GorgeRow$Path" "walkers" "I", Cond.static yX4_within, Cond.initialized RX4, Cond.code yX4_within cX4_within 3 (some .boolean), Cond.methodLink RX4 168 yX4_isSong, Cond.static yX4_isSong, Cond.code yX4_isSong cX4_isSong 6 (some .boolean), Cond.constantLong RX4 209 (100), Cond.constantLong RX4 211 (31), Cond.methodLink RX4 61 yX4_within, Cond.methodLink RX4 107 yX3_row, Cond.instanceMethod yX3_row, Cond.selects RX3 yX3_row yX3_row, Cond.initialized RX3, Cond.code yX3_row cX3_row 1 (some .int), Cond.fieldLink RX3 11 "GorgeRow$Walk" "row" "I", Cond.methodLink RX4 101 yX3_members]
def wsX4_share_r2 : List Cond := [Cond.instanceMethod yX3_members, Cond.selects RX3 yX3_members yX3_members, Cond.code yX3_members cX3_members 1 (some .int), Cond.methodLink RX3 34 yX0_members, Cond.static yX0_members, Cond.initialized RX0, Cond.code yX0_members cX0_members 3 (some .int), Cond.methodLink RX0 19 yX0_size, Cond.static yX0_size, Cond.code yX0_size cX0_size 2 (some .int), Cond.methodLink RX0 9 yX0_at, Cond.static yX0_at, Cond.code yX0_at cX0_at 2 (some .int), Cond.methodLink RX4 186 yX4_fraction, Cond.static yX4_fraction, Cond.code yX4_fraction cX4_fraction 7 (some .int), Cond.methodLink RX4 234 Lib.MathLoose.abs_long.x, Cond.static Lib.MathLoose.abs_long.x, Cond.initialized "java/lang/Math", Cond.code Lib.MathLoose.abs_long.x Lib.MathLoose.abs_long.code 2 (some .long), Cond.methodLink RX4 238 yX4_commonDivisor, Cond.static yX4_commonDivisor, Cond.code yX4_commonDivisor cX4_commonDivisor 11 (some .long), Cond.methodLink RX4 144 yX3_size]
def wsX4_share_r3 : List Cond := [Cond.instanceMethod yX3_size, Cond.selects RX3 yX3_size yX3_size, Cond.code yX3_size cX3_size 1 (some .int), Cond.methodLink RX3 28 yX0_size, Cond.methodLink RX4 190 yJ6_bitCount_0f7a4, Cond.static yJ6_bitCount_0f7a4, Cond.initialized RJ6, Cond.code yJ6_bitCount_0f7a4 cJ6_bitCount_0f7a4 1 (some .int), Cond.constant RJ6 265 (1431655765), Cond.constant RJ6 266 (858993459), Cond.constant RJ6 267 (252645135), Cond.methodLink RX4 195 yX0_only, Cond.static yX0_only, Cond.code yX0_only cX0_only 4 (some .int), Cond.methodLink RX0 23 yX0_without, Cond.static yX0_without, Cond.code yX0_without cX0_without 3 (some .int), Cond.methodLink RX4 179 yX4_leftOf, Cond.instanceMethod yX4_leftOf, Cond.selects RX4 yX4_leftOf yX4_leftOf, Cond.code yX4_leftOf cX4_leftOf 5 (some .int), Cond.fieldLink RX4 32 "GorgeRow" "trial" "LGorgeRow$Walk;", Cond.methodLink RX4 98 yX3_place, Cond.instanceMethod yX3_place]
def wsX4_share_r4 : List Cond := [Cond.selects RX3 yX3_place yX3_place, Cond.code yX3_place cX3_place 1 (some .int), Cond.fieldLink RX3 18 "GorgeRow$Walk" "place" "I", Cond.methodLink RX4 205 yX3_lineUp, Cond.instanceMethod yX3_lineUp, Cond.selects RX3 yX3_lineUp yX3_lineUp, Cond.code yX3_lineUp cX3_lineUp 3 none, Cond.fieldLink RX3 15 "GorgeRow$Walk" "quiets" "I", Cond.methodLink RX4 172 yX3_sing, Cond.instanceMethod yX3_sing, Cond.selects RX3 yX3_sing yX3_sing, Cond.code yX3_sing cX3_sing 6 (some .int), Cond.fieldLink RX3 21 "GorgeRow$Walk" "turned" "I", Cond.methodLink RX3 76 yX3_isOut, Cond.instanceMethod yX3_isOut, Cond.selects RX3 yX3_isOut yX3_isOut, Cond.code yX3_isOut cX3_isOut 1 (some .boolean), Cond.fieldLink RX3 24 "GorgeRow$Walk" "path" "LGorgeRow$Path;", Cond.methodLink RX3 37 yX1_light, Cond.instanceMethod yX1_light, Cond.selects RX1 yX1_light yX1_light, Cond.code yX1_light cX1_light 1 (some .int), Cond.fieldLink RX1 13 "GorgeRow$Path" "light" "I", Cond.methodLink RX3 80 yX3_treadsOf]
def wsX4_share_r5 : List Cond := [Cond.static yX3_treadsOf, Cond.code yX3_treadsOf cX3_treadsOf 6 (some .int), Cond.constantLong RX3 109 (100), Cond.methodLink RX3 84 yX3_step, Cond.instanceMethod yX3_step, Cond.selects RX3 yX3_step yX3_step, Cond.code yX3_step cX3_step 6 (some .int), Cond.methodLink RX3 47 yX3_size, Cond.methodLink RX3 49 yX3_walkerAt, Cond.instanceMethod yX3_walkerAt, Cond.selects RX3 yX3_walkerAt yX3_walkerAt, Cond.code yX3_walkerAt cX3_walkerAt 2 (some .int), Cond.methodLink RX3 43 yX0_at, Cond.methodLink RX3 87 yX1_kind, Cond.instanceMethod yX1_kind, Cond.selects RX1 yX1_kind yX1_kind, Cond.code yX1_kind cX1_kind 2 (some .int), Cond.fieldLink RX1 22 "GorgeRow$Path" "kinds" "I", Cond.methodLink RX1 53 yX0_at, Cond.methodLink RX3 90 yX3_isHeard, Cond.instanceMethod yX3_isHeard, Cond.selects RX3 yX3_isHeard yX3_isHeard, Cond.code yX3_isHeard cX3_isHeard 6 (some .boolean), Cond.methodLink RX3 97 yX1_water]
def wsX4_share_r6 : List Cond := [Cond.instanceMethod yX1_water, Cond.selects RX1 yX1_water yX1_water, Cond.code yX1_water cX1_water 1 (some .int), Cond.fieldLink RX1 16 "GorgeRow$Path" "water" "I", Cond.methodLink RX3 73 yX3_quiet, Cond.instanceMethod yX3_quiet, Cond.selects RX3 yX3_quiet yX3_quiet, Cond.code yX3_quiet cX3_quiet 2 (some .int), Cond.methodLink RX3 70 yX3_setQuiet, Cond.instanceMethod yX3_setQuiet, Cond.selects RX3 yX3_setQuiet yX3_setQuiet, Cond.code yX3_setQuiet cX3_setQuiet 3 none, Cond.methodLink RX3 106 yX0_with, Cond.static yX0_with, Cond.code yX0_with cX0_with 3 (some .int), Cond.methodLink RX3 94 yX3_turnRound, Cond.instanceMethod yX3_turnRound, Cond.selects RX3 yX3_turnRound yX3_turnRound, Cond.code yX3_turnRound cX3_turnRound 4 (some .int), Cond.methodLink RX3 100 yX1_nerve, Cond.instanceMethod yX1_nerve, Cond.selects RX1 yX1_nerve yX1_nerve, Cond.code yX1_nerve cX1_nerve 2 (some .int), Cond.fieldLink RX1 19 "GorgeRow$Path" "nerves" "I"]
def wsX4_share_r7 : List Cond := [Cond.methodLink RX3 103 yX0_without, Cond.methodLink RX4 199 yX4_factorial, Cond.static yX4_factorial, Cond.code yX4_factorial cX4_factorial 3 (some .int)]
def wsX4_share : List Cond := .code yX4_share cX4_share 14 (some .int) :: ((wsX4_share_r1 ++ (wsX4_share_r2 ++ (wsX4_share_r3 ++ (wsX4_share_r4 ++ (wsX4_share_r5 ++ (wsX4_share_r6 ++ wsX4_share_r7)))))) ++ wsX40 ++ wsX10 ++ wsX30)
def wsX4_bears_r1 : List Cond := [Cond.fieldLink RX4 19 "GorgeRow" "path" "LGorgeRow$Path;", Cond.fieldLink RX4 28 "GorgeRow" "now" "LGorgeRow$Walk;", Cond.fieldLink RX4 32 "GorgeRow" "trial" "LGorgeRow$Walk;", Cond.methodLink RX4 120 yX1_has, Cond.instanceMethod yX1_has, Cond.selects RX1 yX1_has yX1_has, Cond.initialized RX1, Cond.code yX1_has cX1_has 2 (some .boolean), Cond.fieldLink RX1 7 "GorgeRow$Path" "walkers" "I", Cond.static yX4_within, Cond.initialized RX4, Cond.code yX4_within cX4_within 3 (some .boolean), Cond.methodLink RX4 132 yX3_indexOf, Cond.instanceMethod yX3_indexOf, Cond.selects RX3 yX3_indexOf yX3_indexOf, Cond.initialized RX3, Cond.code yX3_indexOf cX3_indexOf 3 (some .int), Cond.methodLink RX3 47 yX3_size, Cond.instanceMethod yX3_size, Cond.selects RX3 yX3_size yX3_size, Cond.code yX3_size cX3_size 1 (some .int), Cond.fieldLink RX3 11 "GorgeRow$Walk" "row" "I", Cond.methodLink RX3 28 yX0_size, Cond.static yX0_size]
def wsX4_bears_r2 : List Cond := [Cond.initialized RX0, Cond.code yX0_size cX0_size 2 (some .int), Cond.methodLink RX0 9 yX0_at, Cond.static yX0_at, Cond.code yX0_at cX0_at 2 (some .int), Cond.methodLink RX3 49 yX3_walkerAt, Cond.instanceMethod yX3_walkerAt, Cond.selects RX3 yX3_walkerAt yX3_walkerAt, Cond.code yX3_walkerAt cX3_walkerAt 2 (some .int), Cond.methodLink RX3 43 yX0_at, Cond.methodLink RX4 164 yX3_state, Cond.instanceMethod yX3_state, Cond.selects RX3 yX3_state yX3_state, Cond.code yX3_state cX3_state 1 (some .long), Cond.fieldLink RX3 18 "GorgeRow$Walk" "place" "I", Cond.fieldLink RX3 15 "GorgeRow$Walk" "quiets" "I", Cond.methodLink RX4 154 yX3_become, Cond.instanceMethod yX3_become, Cond.selects RX3 yX3_become yX3_become, Cond.code yX3_become cX3_become 3 none, Cond.constant RX3 65 (1048575), Cond.methodLink RX4 92 yX1_light, Cond.instanceMethod yX1_light, Cond.selects RX1 yX1_light yX1_light]
def wsX4_bears_r3 : List Cond := [Cond.code yX1_light cX1_light 1 (some .int), Cond.fieldLink RX1 13 "GorgeRow$Path" "light" "I", Cond.methodLink RX4 98 yX3_place, Cond.instanceMethod yX3_place, Cond.selects RX3 yX3_place yX3_place, Cond.code yX3_place cX3_place 1 (some .int), Cond.methodLink RX4 141 yX3_step, Cond.instanceMethod yX3_step, Cond.selects RX3 yX3_step yX3_step, Cond.code yX3_step cX3_step 6 (some .int), Cond.fieldLink RX3 24 "GorgeRow$Walk" "path" "LGorgeRow$Path;", Cond.methodLink RX3 87 yX1_kind, Cond.instanceMethod yX1_kind, Cond.selects RX1 yX1_kind yX1_kind, Cond.code yX1_kind cX1_kind 2 (some .int), Cond.fieldLink RX1 22 "GorgeRow$Path" "kinds" "I", Cond.methodLink RX1 53 yX0_at, Cond.methodLink RX3 90 yX3_isHeard, Cond.instanceMethod yX3_isHeard, Cond.selects RX3 yX3_isHeard yX3_isHeard, Cond.code yX3_isHeard cX3_isHeard 6 (some .boolean), Cond.methodLink RX3 97 yX1_water, Cond.instanceMethod yX1_water, Cond.selects RX1 yX1_water yX1_water]
def wsX4_bears_r4 : List Cond := [Cond.code yX1_water cX1_water 1 (some .int), Cond.fieldLink RX1 16 "GorgeRow$Path" "water" "I", Cond.methodLink RX3 73 yX3_quiet, Cond.instanceMethod yX3_quiet, Cond.selects RX3 yX3_quiet yX3_quiet, Cond.code yX3_quiet cX3_quiet 2 (some .int), Cond.methodLink RX3 70 yX3_setQuiet, Cond.instanceMethod yX3_setQuiet, Cond.selects RX3 yX3_setQuiet yX3_setQuiet, Cond.code yX3_setQuiet cX3_setQuiet 3 none, Cond.methodLink RX3 106 yX0_with, Cond.static yX0_with, Cond.code yX0_with cX0_with 3 (some .int), Cond.methodLink RX3 94 yX3_turnRound, Cond.instanceMethod yX3_turnRound, Cond.selects RX3 yX3_turnRound yX3_turnRound, Cond.code yX3_turnRound cX3_turnRound 4 (some .int), Cond.fieldLink RX3 21 "GorgeRow$Walk" "turned" "I", Cond.methodLink RX3 100 yX1_nerve, Cond.instanceMethod yX1_nerve, Cond.selects RX1 yX1_nerve yX1_nerve, Cond.code yX1_nerve cX1_nerve 2 (some .int), Cond.fieldLink RX1 19 "GorgeRow$Path" "nerves" "I", Cond.methodLink RX3 103 yX0_without]
def wsX4_bears_r5 : List Cond := [Cond.static yX0_without, Cond.code yX0_without cX0_without 3 (some .int), Cond.methodLink RX4 202 yX3_turned, Cond.instanceMethod yX3_turned, Cond.selects RX3 yX3_turned yX3_turned, Cond.code yX3_turned cX3_turned 1 (some .int)]
def wsX4_bears : List Cond := .code yX4_bears cX4_bears 4 (some .int) :: ((wsX4_bears_r1 ++ (wsX4_bears_r2 ++ (wsX4_bears_r3 ++ (wsX4_bears_r4 ++ wsX4_bears_r5)))) ++ wsX40 ++ wsX10 ++ wsX30)
def wsX4_isTenths : List Cond := .code yX4_isTenths cX4_isTenths 1 (some .boolean) :: ([.methodLink RX4 61 yX4_within, .static yX4_within, .initialized RX4, .code yX4_within cX4_within 3 (some .boolean)])
def wsX4_still : List Cond := .code yX4_still cX4_still 12 (some .int) :: ([.constantLong RX4 209 (100), .constantLong RX4 216 (10), .methodLink RX4 61 yX4_within, .static yX4_within, .initialized RX4, .code yX4_within cX4_within 3 (some .boolean), .methodLink RX4 213 yX4_isTenths, .static yX4_isTenths, .code yX4_isTenths cX4_isTenths 1 (some .boolean), .methodLink RX4 186 yX4_fraction, .static yX4_fraction, .code yX4_fraction cX4_fraction 7 (some .int), .methodLink RX4 234 Lib.MathLoose.abs_long.x, .static Lib.MathLoose.abs_long.x, .initialized "java/lang/Math", .code Lib.MathLoose.abs_long.x Lib.MathLoose.abs_long.code 2 (some .long), .methodLink RX4 238 yX4_commonDivisor, .static yX4_commonDivisor, .code yX4_commonDivisor cX4_commonDivisor 11 (some .long)])
def wsX4_pebbles : List Cond := .code yX4_pebbles cX4_pebbles 6 (some .int) :: ([.methodLink RX4 61 yX4_within, .static yX4_within, .initialized RX4, .code yX4_within cX4_within 3 (some .boolean)])
def wsX4_tell : List Cond := .code yX4_tell cX4_tell 3 (some .int) :: ([.fieldLink RX4 54 "GorgeRow" "toldCount" "I", .fieldLink RX4 48 "GorgeRow" "heardMinutes" "I", .fieldLink RX4 51 "GorgeRow" "silentMinutes" "I", .methodLink RX4 61 yX4_within, .static yX4_within, .initialized RX4, .code yX4_within cX4_within 3 (some .boolean)] ++ wsX40)
def wsX4_untell : List Cond := .code yX4_untell cX4_untell 2 (some .int) :: ([.fieldLink RX4 54 "GorgeRow" "toldCount" "I", .fieldLink RX4 48 "GorgeRow" "heardMinutes" "I", .fieldLink RX4 51 "GorgeRow" "silentMinutes" "I"] ++ wsX40)
def wsX4_letGo : List Cond := .code yX4_letGo cX4_letGo 7 (some .int) :: ([.fieldLink RX4 48 "GorgeRow" "heardMinutes" "I", .fieldLink RX4 51 "GorgeRow" "silentMinutes" "I"] ++ wsX40)
def wsX4_longestSilence : List Cond := .code yX4_longestSilence cX4_longestSilence 5 (some .int) :: ([.methodLink RX4 229 Lib.Math.max.name, .static Lib.Math.max.name, .initialized "java/lang/Math", .code Lib.Math.max.name Lib.Math.max.code 2 (some .int)])
def wsX4_power : List Cond := .code yX4_power cX4_power 5 (some .long) :: ([])
def wsX4_link_r1 : List Cond := [Cond.methodLink RX4 61 yX4_within, Cond.static yX4_within, Cond.initialized RX4, Cond.code yX4_within cX4_within 3 (some .boolean), Cond.methodLink RX4 213 yX4_isTenths, Cond.static yX4_isTenths, Cond.code yX4_isTenths cX4_isTenths 1 (some .boolean), Cond.methodLink RX4 218 yX4_longestSilence, Cond.static yX4_longestSilence, Cond.code yX4_longestSilence cX4_longestSilence 5 (some .int), Cond.methodLink RX4 229 Lib.Math.max.name, Cond.static Lib.Math.max.name, Cond.initialized "java/lang/Math", Cond.code Lib.Math.max.name Lib.Math.max.code 2 (some .int), Cond.methodLink RX4 190 yJ6_bitCount_0f7a4, Cond.static yJ6_bitCount_0f7a4, Cond.initialized RJ6, Cond.code yJ6_bitCount_0f7a4 cJ6_bitCount_0f7a4 1 (some .int), Cond.constant RJ6 265 (1431655765), Cond.constant RJ6 266 (858993459), Cond.constant RJ6 267 (252645135), Cond.methodLink RX4 221 yX4_power, Cond.static yX4_power, Cond.code yX4_power cX4_power 5 (some .long)]
def wsX4_link_r2 : List Cond := [Cond.methodLink RX4 186 yX4_fraction, Cond.static yX4_fraction, Cond.code yX4_fraction cX4_fraction 7 (some .int), Cond.methodLink RX4 234 Lib.MathLoose.abs_long.x, Cond.static Lib.MathLoose.abs_long.x, Cond.code Lib.MathLoose.abs_long.x Lib.MathLoose.abs_long.code 2 (some .long), Cond.methodLink RX4 238 yX4_commonDivisor, Cond.static yX4_commonDivisor, Cond.code yX4_commonDivisor cX4_commonDivisor 11 (some .long)]
def wsX4_link : List Cond := .code yX4_link cX4_link 9 (some .int) :: ((wsX4_link_r1 ++ wsX4_link_r2))
def wsX4_seed : List Cond := .code yX4_seed cX4_seed 5 (some .long) :: ([.fieldLink RX4 57 "GorgeRow" "seedNow" "J"] ++ wsX40)
def wsX4_gorges_r1 : List Cond := [Cond.fieldLink RX4 19 "GorgeRow" "path" "LGorgeRow$Path;", Cond.fieldLink RX4 28 "GorgeRow" "now" "LGorgeRow$Walk;", Cond.fieldLink RX4 32 "GorgeRow" "trial" "LGorgeRow$Walk;", Cond.fieldLink RX4 57 "GorgeRow" "seedNow" "J", Cond.constantLong RX4 225 (6364136223846793005), Cond.constantLong RX4 227 (1442695040888963407), Cond.methodLink RX4 61 yX4_within, Cond.static yX4_within, Cond.initialized RX4, Cond.code yX4_within cX4_within 3 (some .boolean), Cond.methodLink RX4 92 yX1_light, Cond.instanceMethod yX1_light, Cond.selects RX1 yX1_light yX1_light, Cond.initialized RX1, Cond.code yX1_light cX1_light 1 (some .int), Cond.fieldLink RX1 13 "GorgeRow$Path" "light" "I", Cond.methodLink RX4 98 yX3_place, Cond.instanceMethod yX3_place, Cond.selects RX3 yX3_place yX3_place, Cond.initialized RX3, Cond.code yX3_place cX3_place 1 (some .int), Cond.fieldLink RX3 18 "GorgeRow$Walk" "place" "I", Cond.methodLink RX4 164 yX3_state, Cond.instanceMethod yX3_state]
def wsX4_gorges_r2 : List Cond := [Cond.selects RX3 yX3_state yX3_state, Cond.code yX3_state cX3_state 1 (some .long), Cond.fieldLink RX3 15 "GorgeRow$Walk" "quiets" "I", Cond.fieldLink RX3 11 "GorgeRow$Walk" "row" "I", Cond.methodLink RX4 154 yX3_become, Cond.instanceMethod yX3_become, Cond.selects RX3 yX3_become yX3_become, Cond.code yX3_become cX3_become 3 none, Cond.constant RX3 65 (1048575), Cond.methodLink RX4 141 yX3_step, Cond.instanceMethod yX3_step, Cond.selects RX3 yX3_step yX3_step, Cond.code yX3_step cX3_step 6 (some .int), Cond.fieldLink RX3 24 "GorgeRow$Walk" "path" "LGorgeRow$Path;", Cond.methodLink RX3 47 yX3_size, Cond.instanceMethod yX3_size, Cond.selects RX3 yX3_size yX3_size, Cond.code yX3_size cX3_size 1 (some .int), Cond.methodLink RX3 28 yX0_size, Cond.static yX0_size, Cond.initialized RX0, Cond.code yX0_size cX0_size 2 (some .int), Cond.methodLink RX0 9 yX0_at, Cond.static yX0_at]
def wsX4_gorges_r3 : List Cond := [Cond.code yX0_at cX0_at 2 (some .int), Cond.methodLink RX3 49 yX3_walkerAt, Cond.instanceMethod yX3_walkerAt, Cond.selects RX3 yX3_walkerAt yX3_walkerAt, Cond.code yX3_walkerAt cX3_walkerAt 2 (some .int), Cond.methodLink RX3 43 yX0_at, Cond.methodLink RX3 87 yX1_kind, Cond.instanceMethod yX1_kind, Cond.selects RX1 yX1_kind yX1_kind, Cond.code yX1_kind cX1_kind 2 (some .int), Cond.fieldLink RX1 22 "GorgeRow$Path" "kinds" "I", Cond.methodLink RX1 53 yX0_at, Cond.methodLink RX3 90 yX3_isHeard, Cond.instanceMethod yX3_isHeard, Cond.selects RX3 yX3_isHeard yX3_isHeard, Cond.code yX3_isHeard cX3_isHeard 6 (some .boolean), Cond.methodLink RX3 97 yX1_water, Cond.instanceMethod yX1_water, Cond.selects RX1 yX1_water yX1_water, Cond.code yX1_water cX1_water 1 (some .int), Cond.fieldLink RX1 16 "GorgeRow$Path" "water" "I", Cond.methodLink RX3 73 yX3_quiet, Cond.instanceMethod yX3_quiet, Cond.selects RX3 yX3_quiet yX3_quiet]
def wsX4_gorges_r4 : List Cond := [Cond.code yX3_quiet cX3_quiet 2 (some .int), Cond.methodLink RX3 70 yX3_setQuiet, Cond.instanceMethod yX3_setQuiet, Cond.selects RX3 yX3_setQuiet yX3_setQuiet, Cond.code yX3_setQuiet cX3_setQuiet 3 none, Cond.methodLink RX3 106 yX0_with, Cond.static yX0_with, Cond.code yX0_with cX0_with 3 (some .int), Cond.methodLink RX3 94 yX3_turnRound, Cond.instanceMethod yX3_turnRound, Cond.selects RX3 yX3_turnRound yX3_turnRound, Cond.code yX3_turnRound cX3_turnRound 4 (some .int), Cond.fieldLink RX3 21 "GorgeRow$Walk" "turned" "I", Cond.methodLink RX3 100 yX1_nerve, Cond.instanceMethod yX1_nerve, Cond.selects RX1 yX1_nerve yX1_nerve, Cond.code yX1_nerve cX1_nerve 2 (some .int), Cond.fieldLink RX1 19 "GorgeRow$Path" "nerves" "I", Cond.methodLink RX3 103 yX0_without, Cond.static yX0_without, Cond.code yX0_without cX0_without 3 (some .int), Cond.methodLink RX4 144 yX3_size]
def wsX4_gorges : List Cond := .code yX4_gorges cX4_gorges 6 (some .int) :: ((wsX4_gorges_r1 ++ (wsX4_gorges_r2 ++ (wsX4_gorges_r3 ++ wsX4_gorges_r4))) ++ wsX40 ++ wsX10 ++ wsX30)
def wsX4_keep : List Cond := .code yX4_keep cX4_keep 2 (some .int) :: ([.fieldLink RX4 45 "GorgeRow" "kept" "[J", .fieldLink RX4 28 "GorgeRow" "now" "LGorgeRow$Walk;", .methodLink RX4 61 yX4_within, .static yX4_within, .initialized RX4, .code yX4_within cX4_within 3 (some .boolean), .methodLink RX4 164 yX3_state, .instanceMethod yX3_state, .selects RX3 yX3_state yX3_state, .initialized RX3, .code yX3_state cX3_state 1 (some .long), .fieldLink RX3 18 "GorgeRow$Walk" "place" "I", .fieldLink RX3 15 "GorgeRow$Walk" "quiets" "I", .fieldLink RX3 11 "GorgeRow$Walk" "row" "I", .methodLink RX4 98 yX3_place, .instanceMethod yX3_place, .selects RX3 yX3_place yX3_place, .code yX3_place cX3_place 1 (some .int)] ++ wsX40 ++ wsX30)
def wsX4_again : List Cond := .code yX4_again cX4_again 2 (some .int) :: ([.fieldLink RX4 45 "GorgeRow" "kept" "[J", .constantLong RX4 43 (-1), .fieldLink RX4 28 "GorgeRow" "now" "LGorgeRow$Walk;", .fieldLink RX4 39 "GorgeRow" "actCount" "I", .methodLink RX4 61 yX4_within, .static yX4_within, .initialized RX4, .code yX4_within cX4_within 3 (some .boolean), .methodLink RX4 154 yX3_become, .instanceMethod yX3_become, .selects RX3 yX3_become yX3_become, .initialized RX3, .code yX3_become cX3_become 3 none, .constant RX3 65 (1048575), .fieldLink RX3 11 "GorgeRow$Walk" "row" "I", .fieldLink RX3 15 "GorgeRow$Walk" "quiets" "I", .fieldLink RX3 18 "GorgeRow$Walk" "place" "I", .methodLink RX4 98 yX3_place, .instanceMethod yX3_place, .selects RX3 yX3_place yX3_place, .code yX3_place cX3_place 1 (some .int)] ++ wsX40 ++ wsX30)
def wsX5_init : List Cond := .code yX5_init cX5_init 1 none :: ([.methodLink RX5 1 objectInit, .instanceMethod objectInit, .code objectInit ⟨#[0xb1]⟩ 1 none, .arrayClass .int, .fieldLink RX5 7 "GorgeRowModel" "text" "[I", .fieldLink RX5 13 "GorgeRowModel" "light" "I", .fieldLink RX5 17 "GorgeRowModel" "water" "I", .fieldLink RX5 20 "GorgeRowModel" "nerve" "[I", .fieldLink RX5 23 "GorgeRowModel" "kind" "[I", .fieldLink RX5 26 "GorgeRowModel" "readNerve" "[I", .fieldLink RX5 29 "GorgeRowModel" "readKind" "[I", .fieldLink RX5 32 "GorgeRowModel" "page" "[I", .fieldLink RX5 35 "GorgeRowModel" "trial" "[I", .fieldLink RX5 38 "GorgeRowModel" "book" "[I", .fieldLink RX5 41 "GorgeRowModel" "kept" "[I", .arrayClass .boolean, .fieldLink RX5 44 "GorgeRowModel" "isKept" "[Z", .fieldLink RX5 48 "GorgeRowModel" "toldMinute" "[I", .fieldLink RX5 51 "GorgeRowModel" "toldHeard" "[Z", .fieldLink RX5 54 "GorgeRowModel" "worth" "[I"] ++ wsX50)
def wsX5_in : List Cond := .code yX5_in cX5_in 6 (some .boolean) :: ([])
def wsX5_has : List Cond := .code yX5_has cX5_has 2 (some .boolean) :: ([])
def wsX5_many : List Cond := .code yX5_many cX5_many 3 (some .int) :: ([])
def wsX5_noOne : List Cond := .code yX5_noOne cX5_noOne 2 (some .boolean) :: ([.fieldLink RX5 60 "GorgeRowModel" "walkers" "I", .methodLink RX5 63 yX5_in, .static yX5_in, .initialized RX5, .code yX5_in cX5_in 6 (some .boolean)] ++ wsX50)
def wsX5_write : List Cond := .code yX5_write cX5_write 2 (some .int) :: ([.fieldLink RX5 57 "GorgeRowModel" "thrown" "I", .constantLong RX5 67 (255), .fieldLink RX5 69 "GorgeRowModel" "textSize" "I", .fieldLink RX5 7 "GorgeRowModel" "text" "[I", .methodLink RX5 63 yX5_in, .static yX5_in, .initialized RX5, .code yX5_in cX5_in 6 (some .boolean)] ++ wsX50)
def wsX5_wipe : List Cond := .code yX5_wipe cX5_wipe 2 (some .int) :: ([.fieldLink RX5 57 "GorgeRowModel" "thrown" "I", .fieldLink RX5 69 "GorgeRowModel" "textSize" "I"] ++ wsX50)
def wsX5_figure : List Cond := .code yX5_figure cX5_figure 3 (some .int) :: ([.fieldLink RX5 72 "GorgeRowModel" "place" "I", .fieldLink RX5 69 "GorgeRowModel" "textSize" "I", .fieldLink RX5 7 "GorgeRowModel" "text" "[I", .methodLink RX5 63 yX5_in, .static yX5_in, .initialized RX5, .code yX5_in cX5_in 6 (some .boolean)] ++ wsX50)
def wsX5_readGorge : List Cond := .code yX5_readGorge cX5_readGorge 3 (some .int) :: ([.fieldLink RX5 72 "GorgeRowModel" "place" "I", .fieldLink RX5 75 "GorgeRowModel" "readWalkers" "I", .fieldLink RX5 69 "GorgeRowModel" "textSize" "I", .fieldLink RX5 7 "GorgeRowModel" "text" "[I", .fieldLink RX5 82 "GorgeRowModel" "readLight" "I", .fieldLink RX5 85 "GorgeRowModel" "readWater" "I", .fieldLink RX5 26 "GorgeRowModel" "readNerve" "[I", .fieldLink RX5 29 "GorgeRowModel" "readKind" "[I", .methodLink RX5 78 yX5_figure, .instanceMethod yX5_figure, .selects RX5 yX5_figure yX5_figure, .initialized RX5, .code yX5_figure cX5_figure 3 (some .int), .methodLink RX5 63 yX5_in, .static yX5_in, .code yX5_in cX5_in 6 (some .boolean)] ++ wsX50)
def wsX5_fault : List Cond := .code yX5_fault cX5_fault 1 (some .int) :: ([.fieldLink RX5 57 "GorgeRowModel" "thrown" "I", .methodLink RX5 88 yX5_readGorge, .instanceMethod yX5_readGorge, .selects RX5 yX5_readGorge yX5_readGorge, .initialized RX5, .code yX5_readGorge cX5_readGorge 3 (some .int), .fieldLink RX5 72 "GorgeRowModel" "place" "I", .fieldLink RX5 75 "GorgeRowModel" "readWalkers" "I", .fieldLink RX5 69 "GorgeRowModel" "textSize" "I", .fieldLink RX5 7 "GorgeRowModel" "text" "[I", .fieldLink RX5 82 "GorgeRowModel" "readLight" "I", .fieldLink RX5 85 "GorgeRowModel" "readWater" "I", .fieldLink RX5 26 "GorgeRowModel" "readNerve" "[I", .fieldLink RX5 29 "GorgeRowModel" "readKind" "[I", .methodLink RX5 78 yX5_figure, .instanceMethod yX5_figure, .selects RX5 yX5_figure yX5_figure, .code yX5_figure cX5_figure 3 (some .int), .methodLink RX5 63 yX5_in, .static yX5_in, .code yX5_in cX5_in 6 (some .boolean)] ++ wsX50)
def wsX5_gorge_r1 : List Cond := [Cond.fieldLink RX5 57 "GorgeRowModel" "thrown" "I", Cond.fieldLink RX5 75 "GorgeRowModel" "readWalkers" "I", Cond.fieldLink RX5 60 "GorgeRowModel" "walkers" "I", Cond.fieldLink RX5 82 "GorgeRowModel" "readLight" "I", Cond.fieldLink RX5 13 "GorgeRowModel" "light" "I", Cond.fieldLink RX5 85 "GorgeRowModel" "readWater" "I", Cond.fieldLink RX5 17 "GorgeRowModel" "water" "I", Cond.fieldLink RX5 32 "GorgeRowModel" "page" "[I", Cond.fieldLink RX5 20 "GorgeRowModel" "nerve" "[I", Cond.fieldLink RX5 26 "GorgeRowModel" "readNerve" "[I", Cond.fieldLink RX5 23 "GorgeRowModel" "kind" "[I", Cond.fieldLink RX5 29 "GorgeRowModel" "readKind" "[I", Cond.fieldLink RX5 92 "GorgeRowModel" "acts" "I", Cond.fieldLink RX5 44 "GorgeRowModel" "isKept" "[Z", Cond.methodLink RX5 88 yX5_readGorge, Cond.instanceMethod yX5_readGorge, Cond.selects RX5 yX5_readGorge yX5_readGorge, Cond.initialized RX5, Cond.code yX5_readGorge cX5_readGorge 3 (some .int), Cond.fieldLink RX5 72 "GorgeRowModel" "place" "I", Cond.fieldLink RX5 69 "GorgeRowModel" "textSize" "I", Cond.fieldLink RX5 7 "GorgeRowModel" "text" "[I", Cond.methodLink RX5 78 yX5_figure, Cond.instanceMethod yX5_figure]
def wsX5_gorge_r2 : List Cond := [Cond.selects RX5 yX5_figure yX5_figure, Cond.code yX5_figure cX5_figure 3 (some .int), Cond.methodLink RX5 63 yX5_in, Cond.static yX5_in, Cond.code yX5_in cX5_in 6 (some .boolean)]
def wsX5_gorge : List Cond := .code yX5_gorge cX5_gorge 2 (some .int) :: ((wsX5_gorge_r1 ++ wsX5_gorge_r2) ++ wsX50)
def wsX5_rowOf : List Cond := .code yX5_rowOf cX5_rowOf 3 (some .int) :: ([])
def wsX5_figuresOf : List Cond := .code yX5_figuresOf cX5_figuresOf 3 (some .int) :: ([])
def wsX5_about : List Cond := .code yX5_about cX5_about 2 (some .int) :: ([.fieldLink RX5 57 "GorgeRowModel" "thrown" "I", .fieldLink RX5 60 "GorgeRowModel" "walkers" "I", .fieldLink RX5 13 "GorgeRowModel" "light" "I", .fieldLink RX5 17 "GorgeRowModel" "water" "I", .fieldLink RX5 32 "GorgeRowModel" "page" "[I", .fieldLink RX5 92 "GorgeRowModel" "acts" "I", .fieldLink RX5 102 "GorgeRowModel" "told" "I", .fieldLink RX5 69 "GorgeRowModel" "textSize" "I", .methodLink RX5 95 yX5_rowOf, .static yX5_rowOf, .initialized RX5, .code yX5_rowOf cX5_rowOf 3 (some .int), .methodLink RX5 99 yX5_figuresOf, .static yX5_figuresOf, .code yX5_figuresOf cX5_figuresOf 3 (some .int)] ++ wsX50)
def wsX5_placeOf : List Cond := .code yX5_placeOf cX5_placeOf 4 (some .int) :: ([])
def wsX5_walker : List Cond := .code yX5_walker cX5_walker 4 (some .int) :: ([.fieldLink RX5 57 "GorgeRowModel" "thrown" "I", .fieldLink RX5 32 "GorgeRowModel" "page" "[I", .fieldLink RX5 20 "GorgeRowModel" "nerve" "[I", .fieldLink RX5 23 "GorgeRowModel" "kind" "[I", .methodLink RX5 105 yX5_noOne, .instanceMethod yX5_noOne, .selects RX5 yX5_noOne yX5_noOne, .initialized RX5, .code yX5_noOne cX5_noOne 2 (some .boolean), .fieldLink RX5 60 "GorgeRowModel" "walkers" "I", .methodLink RX5 63 yX5_in, .static yX5_in, .code yX5_in cX5_in 6 (some .boolean), .methodLink RX5 109 yX5_placeOf, .static yX5_placeOf, .code yX5_placeOf cX5_placeOf 4 (some .int)] ++ wsX50)
def wsX5_isHeard : List Cond := .code yX5_isHeard cX5_isHeard 5 (some .boolean) :: ([.fieldLink RX5 23 "GorgeRowModel" "kind" "[I", .fieldLink RX5 17 "GorgeRowModel" "water" "I", .methodLink RX5 113 yX5_has, .static yX5_has, .initialized RX5, .code yX5_has cX5_has 2 (some .boolean)] ++ wsX50)
def wsX5_goMinute : List Cond := .code yX5_goMinute cX5_goMinute 7 (some .int) :: ([.fieldLink RX5 23 "GorgeRowModel" "kind" "[I", .fieldLink RX5 121 "GorgeRowModel" "turned" "I", .fieldLink RX5 20 "GorgeRowModel" "nerve" "[I", .methodLink RX5 117 yX5_isHeard, .instanceMethod yX5_isHeard, .selects RX5 yX5_isHeard yX5_isHeard, .initialized RX5, .code yX5_isHeard cX5_isHeard 5 (some .boolean), .fieldLink RX5 17 "GorgeRowModel" "water" "I", .methodLink RX5 113 yX5_has, .static yX5_has, .code yX5_has cX5_has 2 (some .boolean)] ++ wsX50)
def wsX5_note : List Cond := .code yX5_note cX5_note 2 none :: ([.fieldLink RX5 92 "GorgeRowModel" "acts" "I", .fieldLink RX5 38 "GorgeRowModel" "book" "[I", .fieldLink RX5 32 "GorgeRowModel" "page" "[I"] ++ wsX50)
def wsX5_minute_r1 : List Cond := [Cond.fieldLink RX5 57 "GorgeRowModel" "thrown" "I", Cond.fieldLink RX5 60 "GorgeRowModel" "walkers" "I", Cond.fieldLink RX5 32 "GorgeRowModel" "page" "[I", Cond.fieldLink RX5 13 "GorgeRowModel" "light" "I", Cond.methodLink RX5 63 yX5_in, Cond.static yX5_in, Cond.initialized RX5, Cond.code yX5_in cX5_in 6 (some .boolean), Cond.methodLink RX5 124 yX5_note, Cond.instanceMethod yX5_note, Cond.selects RX5 yX5_note yX5_note, Cond.code yX5_note cX5_note 2 none, Cond.fieldLink RX5 92 "GorgeRowModel" "acts" "I", Cond.fieldLink RX5 38 "GorgeRowModel" "book" "[I", Cond.methodLink RX5 127 yX5_goMinute, Cond.instanceMethod yX5_goMinute, Cond.selects RX5 yX5_goMinute yX5_goMinute, Cond.code yX5_goMinute cX5_goMinute 7 (some .int), Cond.fieldLink RX5 23 "GorgeRowModel" "kind" "[I", Cond.fieldLink RX5 121 "GorgeRowModel" "turned" "I", Cond.fieldLink RX5 20 "GorgeRowModel" "nerve" "[I", Cond.methodLink RX5 117 yX5_isHeard, Cond.instanceMethod yX5_isHeard, Cond.selects RX5 yX5_isHeard yX5_isHeard]
def wsX5_minute_r2 : List Cond := [Cond.code yX5_isHeard cX5_isHeard 5 (some .boolean), Cond.fieldLink RX5 17 "GorgeRowModel" "water" "I", Cond.methodLink RX5 113 yX5_has, Cond.static yX5_has, Cond.code yX5_has cX5_has 2 (some .boolean)]
def wsX5_minute : List Cond := .code yX5_minute cX5_minute 2 (some .int) :: ((wsX5_minute_r1 ++ wsX5_minute_r2) ++ wsX50)
def wsX5_change : List Cond := .code yX5_change cX5_change 3 (some .int) :: ([.fieldLink RX5 57 "GorgeRowModel" "thrown" "I", .constantLong RX5 130 (3), .fieldLink RX5 32 "GorgeRowModel" "page" "[I", .fieldLink RX5 13 "GorgeRowModel" "light" "I", .methodLink RX5 63 yX5_in, .static yX5_in, .initialized RX5, .code yX5_in cX5_in 6 (some .boolean), .methodLink RX5 124 yX5_note, .instanceMethod yX5_note, .selects RX5 yX5_note yX5_note, .code yX5_note cX5_note 2 none, .fieldLink RX5 92 "GorgeRowModel" "acts" "I", .fieldLink RX5 38 "GorgeRowModel" "book" "[I", .methodLink RX5 99 yX5_figuresOf, .static yX5_figuresOf, .code yX5_figuresOf cX5_figuresOf 3 (some .int)] ++ wsX50)
def wsX5_rest : List Cond := .code yX5_rest cX5_rest 3 (some .int) :: ([.fieldLink RX5 57 "GorgeRowModel" "thrown" "I", .fieldLink RX5 32 "GorgeRowModel" "page" "[I", .fieldLink RX5 13 "GorgeRowModel" "light" "I", .methodLink RX5 124 yX5_note, .instanceMethod yX5_note, .selects RX5 yX5_note yX5_note, .initialized RX5, .code yX5_note cX5_note 2 none, .fieldLink RX5 92 "GorgeRowModel" "acts" "I", .fieldLink RX5 38 "GorgeRowModel" "book" "[I"] ++ wsX50)
def wsX5_undo : List Cond := .code yX5_undo cX5_undo 2 (some .int) :: ([.fieldLink RX5 57 "GorgeRowModel" "thrown" "I", .fieldLink RX5 92 "GorgeRowModel" "acts" "I", .fieldLink RX5 32 "GorgeRowModel" "page" "[I", .fieldLink RX5 38 "GorgeRowModel" "book" "[I"] ++ wsX50)
def wsX5_hundred : List Cond := .code yX5_hundred cX5_hundred 4 (some .long) :: ([.constantLong RX5 132 (100)])
def wsX5_treadsOf : List Cond := .code yX5_treadsOf cX5_treadsOf 4 (some .int) :: ([.constantLong RX5 132 (100), .methodLink RX5 134 yX5_hundred, .static yX5_hundred, .initialized RX5, .code yX5_hundred cX5_hundred 4 (some .long)])
def wsX5_noSong : List Cond := .code yX5_noSong cX5_noSong 5 (some .boolean) :: ([.constantLong RX5 138 (5), .methodLink RX5 63 yX5_in, .static yX5_in, .initialized RX5, .code yX5_in cX5_in 6 (some .boolean), .methodLink RX5 134 yX5_hundred, .static yX5_hundred, .code yX5_hundred cX5_hundred 4 (some .long), .constantLong RX5 132 (100), .methodLink RX5 140 yX5_treadsOf, .static yX5_treadsOf, .code yX5_treadsOf cX5_treadsOf 4 (some .int)])
def wsX5_begin : List Cond := .code yX5_begin cX5_begin 2 none :: ([.fieldLink RX5 35 "GorgeRowModel" "trial" "[I", .fieldLink RX5 32 "GorgeRowModel" "page" "[I"] ++ wsX50)
def wsX5_sing_r1 : List Cond := [Cond.fieldLink RX5 35 "GorgeRowModel" "trial" "[I", Cond.fieldLink RX5 13 "GorgeRowModel" "light" "I", Cond.methodLink RX5 140 yX5_treadsOf, Cond.static yX5_treadsOf, Cond.initialized RX5, Cond.code yX5_treadsOf cX5_treadsOf 4 (some .int), Cond.constantLong RX5 132 (100), Cond.methodLink RX5 134 yX5_hundred, Cond.static yX5_hundred, Cond.code yX5_hundred cX5_hundred 4 (some .long), Cond.methodLink RX5 127 yX5_goMinute, Cond.instanceMethod yX5_goMinute, Cond.selects RX5 yX5_goMinute yX5_goMinute, Cond.code yX5_goMinute cX5_goMinute 7 (some .int), Cond.fieldLink RX5 23 "GorgeRowModel" "kind" "[I", Cond.fieldLink RX5 121 "GorgeRowModel" "turned" "I", Cond.fieldLink RX5 20 "GorgeRowModel" "nerve" "[I", Cond.methodLink RX5 117 yX5_isHeard, Cond.instanceMethod yX5_isHeard, Cond.selects RX5 yX5_isHeard yX5_isHeard, Cond.code yX5_isHeard cX5_isHeard 5 (some .boolean), Cond.fieldLink RX5 17 "GorgeRowModel" "water" "I", Cond.methodLink RX5 113 yX5_has, Cond.static yX5_has]
def wsX5_sing_r2 : List Cond := [Cond.code yX5_has cX5_has 2 (some .boolean)]
def wsX5_sing : List Cond := .code yX5_sing cX5_sing 7 (some .int) :: ((wsX5_sing_r1 ++ wsX5_sing_r2) ++ wsX50)
def wsX5_left_r1 : List Cond := [Cond.fieldLink RX5 57 "GorgeRowModel" "thrown" "I", Cond.fieldLink RX5 35 "GorgeRowModel" "trial" "[I", Cond.methodLink RX5 144 yX5_noSong, Cond.static yX5_noSong, Cond.initialized RX5, Cond.code yX5_noSong cX5_noSong 5 (some .boolean), Cond.constantLong RX5 138 (5), Cond.methodLink RX5 63 yX5_in, Cond.static yX5_in, Cond.code yX5_in cX5_in 6 (some .boolean), Cond.methodLink RX5 134 yX5_hundred, Cond.static yX5_hundred, Cond.code yX5_hundred cX5_hundred 4 (some .long), Cond.constantLong RX5 132 (100), Cond.methodLink RX5 140 yX5_treadsOf, Cond.static yX5_treadsOf, Cond.code yX5_treadsOf cX5_treadsOf 4 (some .int), Cond.methodLink RX5 148 yX5_begin, Cond.instanceMethod yX5_begin, Cond.selects RX5 yX5_begin yX5_begin, Cond.code yX5_begin cX5_begin 2 none, Cond.fieldLink RX5 32 "GorgeRowModel" "page" "[I", Cond.methodLink RX5 151 yX5_sing, Cond.instanceMethod yX5_sing]
def wsX5_left_r2 : List Cond := [Cond.selects RX5 yX5_sing yX5_sing, Cond.code yX5_sing cX5_sing 7 (some .int), Cond.fieldLink RX5 13 "GorgeRowModel" "light" "I", Cond.methodLink RX5 127 yX5_goMinute, Cond.instanceMethod yX5_goMinute, Cond.selects RX5 yX5_goMinute yX5_goMinute, Cond.code yX5_goMinute cX5_goMinute 7 (some .int), Cond.fieldLink RX5 23 "GorgeRowModel" "kind" "[I", Cond.fieldLink RX5 121 "GorgeRowModel" "turned" "I", Cond.fieldLink RX5 20 "GorgeRowModel" "nerve" "[I", Cond.methodLink RX5 117 yX5_isHeard, Cond.instanceMethod yX5_isHeard, Cond.selects RX5 yX5_isHeard yX5_isHeard, Cond.code yX5_isHeard cX5_isHeard 5 (some .boolean), Cond.fieldLink RX5 17 "GorgeRowModel" "water" "I", Cond.methodLink RX5 113 yX5_has, Cond.static yX5_has, Cond.code yX5_has cX5_has 2 (some .boolean), Cond.methodLink RX5 95 yX5_rowOf, Cond.static yX5_rowOf, Cond.code yX5_rowOf cX5_rowOf 3 (some .int)]
def wsX5_left : List Cond := .code yX5_left cX5_left 4 (some .int) :: ((wsX5_left_r1 ++ wsX5_left_r2) ++ wsX50)
def wsX5_firstTurn_r1 : List Cond := [Cond.fieldLink RX5 57 "GorgeRowModel" "thrown" "I", Cond.methodLink RX5 144 yX5_noSong, Cond.static yX5_noSong, Cond.initialized RX5, Cond.code yX5_noSong cX5_noSong 5 (some .boolean), Cond.constantLong RX5 138 (5), Cond.methodLink RX5 63 yX5_in, Cond.static yX5_in, Cond.code yX5_in cX5_in 6 (some .boolean), Cond.methodLink RX5 134 yX5_hundred, Cond.static yX5_hundred, Cond.code yX5_hundred cX5_hundred 4 (some .long), Cond.constantLong RX5 132 (100), Cond.methodLink RX5 140 yX5_treadsOf, Cond.static yX5_treadsOf, Cond.code yX5_treadsOf cX5_treadsOf 4 (some .int), Cond.methodLink RX5 148 yX5_begin, Cond.instanceMethod yX5_begin, Cond.selects RX5 yX5_begin yX5_begin, Cond.code yX5_begin cX5_begin 2 none, Cond.fieldLink RX5 35 "GorgeRowModel" "trial" "[I", Cond.fieldLink RX5 32 "GorgeRowModel" "page" "[I", Cond.methodLink RX5 151 yX5_sing, Cond.instanceMethod yX5_sing]
def wsX5_firstTurn_r2 : List Cond := [Cond.selects RX5 yX5_sing yX5_sing, Cond.code yX5_sing cX5_sing 7 (some .int), Cond.fieldLink RX5 13 "GorgeRowModel" "light" "I", Cond.methodLink RX5 127 yX5_goMinute, Cond.instanceMethod yX5_goMinute, Cond.selects RX5 yX5_goMinute yX5_goMinute, Cond.code yX5_goMinute cX5_goMinute 7 (some .int), Cond.fieldLink RX5 23 "GorgeRowModel" "kind" "[I", Cond.fieldLink RX5 121 "GorgeRowModel" "turned" "I", Cond.fieldLink RX5 20 "GorgeRowModel" "nerve" "[I", Cond.methodLink RX5 117 yX5_isHeard, Cond.instanceMethod yX5_isHeard, Cond.selects RX5 yX5_isHeard yX5_isHeard, Cond.code yX5_isHeard cX5_isHeard 5 (some .boolean), Cond.fieldLink RX5 17 "GorgeRowModel" "water" "I", Cond.methodLink RX5 113 yX5_has, Cond.static yX5_has, Cond.code yX5_has cX5_has 2 (some .boolean)]
def wsX5_firstTurn : List Cond := .code yX5_firstTurn cX5_firstTurn 4 (some .int) :: ((wsX5_firstTurn_r1 ++ wsX5_firstTurn_r2) ++ wsX50)
def wsX5_hush : List Cond := .code yX5_hush cX5_hush 2 none :: ([.fieldLink RX5 35 "GorgeRowModel" "trial" "[I"] ++ wsX50)
def wsX5_findOrder_r1 : List Cond := [Cond.fieldLink RX5 32 "GorgeRowModel" "page" "[I", Cond.fieldLink RX5 155 "GorgeRowModel" "orderBest" "I", Cond.fieldLink RX5 158 "GorgeRowModel" "orderMany" "I", Cond.fieldLink RX5 35 "GorgeRowModel" "trial" "[I", Cond.methodLink RX5 148 yX5_begin, Cond.instanceMethod yX5_begin, Cond.selects RX5 yX5_begin yX5_begin, Cond.initialized RX5, Cond.code yX5_begin cX5_begin 2 none, Cond.methodLink RX5 95 yX5_rowOf, Cond.static yX5_rowOf, Cond.code yX5_rowOf cX5_rowOf 3 (some .int), Cond.methodLink RX5 161 yX5_hush, Cond.instanceMethod yX5_hush, Cond.selects RX5 yX5_hush yX5_hush, Cond.code yX5_hush cX5_hush 2 none, Cond.methodLink RX5 151 yX5_sing, Cond.instanceMethod yX5_sing, Cond.selects RX5 yX5_sing yX5_sing, Cond.code yX5_sing cX5_sing 7 (some .int), Cond.fieldLink RX5 13 "GorgeRowModel" "light" "I", Cond.methodLink RX5 140 yX5_treadsOf, Cond.static yX5_treadsOf, Cond.code yX5_treadsOf cX5_treadsOf 4 (some .int)]
def wsX5_findOrder_r2 : List Cond := [Cond.constantLong RX5 132 (100), Cond.methodLink RX5 134 yX5_hundred, Cond.static yX5_hundred, Cond.code yX5_hundred cX5_hundred 4 (some .long), Cond.methodLink RX5 127 yX5_goMinute, Cond.instanceMethod yX5_goMinute, Cond.selects RX5 yX5_goMinute yX5_goMinute, Cond.code yX5_goMinute cX5_goMinute 7 (some .int), Cond.fieldLink RX5 23 "GorgeRowModel" "kind" "[I", Cond.fieldLink RX5 121 "GorgeRowModel" "turned" "I", Cond.fieldLink RX5 20 "GorgeRowModel" "nerve" "[I", Cond.methodLink RX5 117 yX5_isHeard, Cond.instanceMethod yX5_isHeard, Cond.selects RX5 yX5_isHeard yX5_isHeard, Cond.code yX5_isHeard cX5_isHeard 5 (some .boolean), Cond.fieldLink RX5 17 "GorgeRowModel" "water" "I", Cond.methodLink RX5 113 yX5_has, Cond.static yX5_has, Cond.code yX5_has cX5_has 2 (some .boolean)]
def wsX5_findOrder : List Cond := .code yX5_findOrder cX5_findOrder 11 none :: ((wsX5_findOrder_r1 ++ wsX5_findOrder_r2) ++ wsX50)
def wsX5_order_r1 : List Cond := [Cond.fieldLink RX5 57 "GorgeRowModel" "thrown" "I", Cond.fieldLink RX5 155 "GorgeRowModel" "orderBest" "I", Cond.fieldLink RX5 158 "GorgeRowModel" "orderMany" "I", Cond.methodLink RX5 144 yX5_noSong, Cond.static yX5_noSong, Cond.initialized RX5, Cond.code yX5_noSong cX5_noSong 5 (some .boolean), Cond.constantLong RX5 138 (5), Cond.methodLink RX5 63 yX5_in, Cond.static yX5_in, Cond.code yX5_in cX5_in 6 (some .boolean), Cond.methodLink RX5 134 yX5_hundred, Cond.static yX5_hundred, Cond.code yX5_hundred cX5_hundred 4 (some .long), Cond.constantLong RX5 132 (100), Cond.methodLink RX5 140 yX5_treadsOf, Cond.static yX5_treadsOf, Cond.code yX5_treadsOf cX5_treadsOf 4 (some .int), Cond.methodLink RX5 164 yX5_findOrder, Cond.instanceMethod yX5_findOrder, Cond.selects RX5 yX5_findOrder yX5_findOrder, Cond.code yX5_findOrder cX5_findOrder 11 none, Cond.fieldLink RX5 32 "GorgeRowModel" "page" "[I", Cond.fieldLink RX5 35 "GorgeRowModel" "trial" "[I"]
def wsX5_order_r2 : List Cond := [Cond.methodLink RX5 148 yX5_begin, Cond.instanceMethod yX5_begin, Cond.selects RX5 yX5_begin yX5_begin, Cond.code yX5_begin cX5_begin 2 none, Cond.methodLink RX5 95 yX5_rowOf, Cond.static yX5_rowOf, Cond.code yX5_rowOf cX5_rowOf 3 (some .int), Cond.methodLink RX5 161 yX5_hush, Cond.instanceMethod yX5_hush, Cond.selects RX5 yX5_hush yX5_hush, Cond.code yX5_hush cX5_hush 2 none, Cond.methodLink RX5 151 yX5_sing, Cond.instanceMethod yX5_sing, Cond.selects RX5 yX5_sing yX5_sing, Cond.code yX5_sing cX5_sing 7 (some .int), Cond.fieldLink RX5 13 "GorgeRowModel" "light" "I", Cond.methodLink RX5 127 yX5_goMinute, Cond.instanceMethod yX5_goMinute, Cond.selects RX5 yX5_goMinute yX5_goMinute, Cond.code yX5_goMinute cX5_goMinute 7 (some .int), Cond.fieldLink RX5 23 "GorgeRowModel" "kind" "[I", Cond.fieldLink RX5 121 "GorgeRowModel" "turned" "I", Cond.fieldLink RX5 20 "GorgeRowModel" "nerve" "[I", Cond.methodLink RX5 117 yX5_isHeard]
def wsX5_order_r3 : List Cond := [Cond.instanceMethod yX5_isHeard, Cond.selects RX5 yX5_isHeard yX5_isHeard, Cond.code yX5_isHeard cX5_isHeard 5 (some .boolean), Cond.fieldLink RX5 17 "GorgeRowModel" "water" "I", Cond.methodLink RX5 113 yX5_has, Cond.static yX5_has, Cond.code yX5_has cX5_has 2 (some .boolean)]
def wsX5_order : List Cond := .code yX5_order cX5_order 5 (some .int) :: ((wsX5_order_r1 ++ (wsX5_order_r2 ++ wsX5_order_r3)) ++ wsX50)
def wsX5_worthOf_r1 : List Cond := [Cond.fieldLink RX5 32 "GorgeRowModel" "page" "[I", Cond.fieldLink RX5 35 "GorgeRowModel" "trial" "[I", Cond.methodLink RX5 148 yX5_begin, Cond.instanceMethod yX5_begin, Cond.selects RX5 yX5_begin yX5_begin, Cond.initialized RX5, Cond.code yX5_begin cX5_begin 2 none, Cond.methodLink RX5 161 yX5_hush, Cond.instanceMethod yX5_hush, Cond.selects RX5 yX5_hush yX5_hush, Cond.code yX5_hush cX5_hush 2 none, Cond.methodLink RX5 113 yX5_has, Cond.static yX5_has, Cond.code yX5_has cX5_has 2 (some .boolean), Cond.methodLink RX5 151 yX5_sing, Cond.instanceMethod yX5_sing, Cond.selects RX5 yX5_sing yX5_sing, Cond.code yX5_sing cX5_sing 7 (some .int), Cond.fieldLink RX5 13 "GorgeRowModel" "light" "I", Cond.methodLink RX5 140 yX5_treadsOf, Cond.static yX5_treadsOf, Cond.code yX5_treadsOf cX5_treadsOf 4 (some .int), Cond.constantLong RX5 132 (100), Cond.methodLink RX5 134 yX5_hundred]
def wsX5_worthOf_r2 : List Cond := [Cond.static yX5_hundred, Cond.code yX5_hundred cX5_hundred 4 (some .long), Cond.methodLink RX5 127 yX5_goMinute, Cond.instanceMethod yX5_goMinute, Cond.selects RX5 yX5_goMinute yX5_goMinute, Cond.code yX5_goMinute cX5_goMinute 7 (some .int), Cond.fieldLink RX5 23 "GorgeRowModel" "kind" "[I", Cond.fieldLink RX5 121 "GorgeRowModel" "turned" "I", Cond.fieldLink RX5 20 "GorgeRowModel" "nerve" "[I", Cond.methodLink RX5 117 yX5_isHeard, Cond.instanceMethod yX5_isHeard, Cond.selects RX5 yX5_isHeard yX5_isHeard, Cond.code yX5_isHeard cX5_isHeard 5 (some .boolean), Cond.fieldLink RX5 17 "GorgeRowModel" "water" "I"]
def wsX5_worthOf : List Cond := .code yX5_worthOf cX5_worthOf 7 (some .int) :: ((wsX5_worthOf_r1 ++ wsX5_worthOf_r2) ++ wsX50)
def wsX5_orders : List Cond := .code yX5_orders cX5_orders 3 (some .int) :: ([])
def wsX5_divisor : List Cond := .code yX5_divisor cX5_divisor 5 (some .int) :: ([])
def wsX5_fraction : List Cond := .code yX5_fraction cX5_fraction 4 (some .int) :: ([.methodLink RX5 168 yX5_divisor, .static yX5_divisor, .initialized RX5, .code yX5_divisor cX5_divisor 5 (some .int)])
def wsX5_share_r1 : List Cond := [Cond.fieldLink RX5 57 "GorgeRowModel" "thrown" "I", Cond.fieldLink RX5 32 "GorgeRowModel" "page" "[I", Cond.fieldLink RX5 54 "GorgeRowModel" "worth" "[I", Cond.methodLink RX5 105 yX5_noOne, Cond.instanceMethod yX5_noOne, Cond.selects RX5 yX5_noOne yX5_noOne, Cond.initialized RX5, Cond.code yX5_noOne cX5_noOne 2 (some .boolean), Cond.fieldLink RX5 60 "GorgeRowModel" "walkers" "I", Cond.methodLink RX5 63 yX5_in, Cond.static yX5_in, Cond.code yX5_in cX5_in 6 (some .boolean), Cond.methodLink RX5 144 yX5_noSong, Cond.static yX5_noSong, Cond.code yX5_noSong cX5_noSong 5 (some .boolean), Cond.constantLong RX5 138 (5), Cond.methodLink RX5 134 yX5_hundred, Cond.static yX5_hundred, Cond.code yX5_hundred cX5_hundred 4 (some .long), Cond.constantLong RX5 132 (100), Cond.methodLink RX5 140 yX5_treadsOf, Cond.static yX5_treadsOf, Cond.code yX5_treadsOf cX5_treadsOf 4 (some .int), Cond.methodLink RX5 95 yX5_rowOf]
def wsX5_share_r2 : List Cond := [Cond.static yX5_rowOf, Cond.code yX5_rowOf cX5_rowOf 3 (some .int), Cond.methodLink RX5 171 yX5_worthOf, Cond.instanceMethod yX5_worthOf, Cond.selects RX5 yX5_worthOf yX5_worthOf, Cond.code yX5_worthOf cX5_worthOf 7 (some .int), Cond.fieldLink RX5 35 "GorgeRowModel" "trial" "[I", Cond.methodLink RX5 148 yX5_begin, Cond.instanceMethod yX5_begin, Cond.selects RX5 yX5_begin yX5_begin, Cond.code yX5_begin cX5_begin 2 none, Cond.methodLink RX5 161 yX5_hush, Cond.instanceMethod yX5_hush, Cond.selects RX5 yX5_hush yX5_hush, Cond.code yX5_hush cX5_hush 2 none, Cond.methodLink RX5 113 yX5_has, Cond.static yX5_has, Cond.code yX5_has cX5_has 2 (some .boolean), Cond.methodLink RX5 151 yX5_sing, Cond.instanceMethod yX5_sing, Cond.selects RX5 yX5_sing yX5_sing, Cond.code yX5_sing cX5_sing 7 (some .int), Cond.fieldLink RX5 13 "GorgeRowModel" "light" "I", Cond.methodLink RX5 127 yX5_goMinute]
def wsX5_share_r3 : List Cond := [Cond.instanceMethod yX5_goMinute, Cond.selects RX5 yX5_goMinute yX5_goMinute, Cond.code yX5_goMinute cX5_goMinute 7 (some .int), Cond.fieldLink RX5 23 "GorgeRowModel" "kind" "[I", Cond.fieldLink RX5 121 "GorgeRowModel" "turned" "I", Cond.fieldLink RX5 20 "GorgeRowModel" "nerve" "[I", Cond.methodLink RX5 117 yX5_isHeard, Cond.instanceMethod yX5_isHeard, Cond.selects RX5 yX5_isHeard yX5_isHeard, Cond.code yX5_isHeard cX5_isHeard 5 (some .boolean), Cond.fieldLink RX5 17 "GorgeRowModel" "water" "I", Cond.methodLink RX5 175 yX5_many, Cond.static yX5_many, Cond.code yX5_many cX5_many 3 (some .int), Cond.methodLink RX5 179 yX5_orders, Cond.static yX5_orders, Cond.code yX5_orders cX5_orders 3 (some .int), Cond.methodLink RX5 182 yX5_fraction, Cond.static yX5_fraction, Cond.code yX5_fraction cX5_fraction 4 (some .int), Cond.methodLink RX5 168 yX5_divisor, Cond.static yX5_divisor, Cond.code yX5_divisor cX5_divisor 5 (some .int)]
def wsX5_share : List Cond := .code yX5_share cX5_share 11 (some .int) :: ((wsX5_share_r1 ++ (wsX5_share_r2 ++ wsX5_share_r3)) ++ wsX50)
def wsX5_bears_r1 : List Cond := [Cond.fieldLink RX5 57 "GorgeRowModel" "thrown" "I", Cond.fieldLink RX5 32 "GorgeRowModel" "page" "[I", Cond.fieldLink RX5 35 "GorgeRowModel" "trial" "[I", Cond.fieldLink RX5 13 "GorgeRowModel" "light" "I", Cond.fieldLink RX5 121 "GorgeRowModel" "turned" "I", Cond.methodLink RX5 105 yX5_noOne, Cond.instanceMethod yX5_noOne, Cond.selects RX5 yX5_noOne yX5_noOne, Cond.initialized RX5, Cond.code yX5_noOne cX5_noOne 2 (some .boolean), Cond.fieldLink RX5 60 "GorgeRowModel" "walkers" "I", Cond.methodLink RX5 63 yX5_in, Cond.static yX5_in, Cond.code yX5_in cX5_in 6 (some .boolean), Cond.methodLink RX5 113 yX5_has, Cond.static yX5_has, Cond.code yX5_has cX5_has 2 (some .boolean), Cond.methodLink RX5 148 yX5_begin, Cond.instanceMethod yX5_begin, Cond.selects RX5 yX5_begin yX5_begin, Cond.code yX5_begin cX5_begin 2 none, Cond.methodLink RX5 127 yX5_goMinute, Cond.instanceMethod yX5_goMinute, Cond.selects RX5 yX5_goMinute yX5_goMinute]
def wsX5_bears_r2 : List Cond := [Cond.code yX5_goMinute cX5_goMinute 7 (some .int), Cond.fieldLink RX5 23 "GorgeRowModel" "kind" "[I", Cond.fieldLink RX5 20 "GorgeRowModel" "nerve" "[I", Cond.methodLink RX5 117 yX5_isHeard, Cond.instanceMethod yX5_isHeard, Cond.selects RX5 yX5_isHeard yX5_isHeard, Cond.code yX5_isHeard cX5_isHeard 5 (some .boolean), Cond.fieldLink RX5 17 "GorgeRowModel" "water" "I"]
def wsX5_bears : List Cond := .code yX5_bears cX5_bears 3 (some .int) :: ((wsX5_bears_r1 ++ wsX5_bears_r2) ++ wsX50)
def wsX5_ten : List Cond := .code yX5_ten cX5_ten 3 (some .int) :: ([])
def wsX5_still : List Cond := .code yX5_still cX5_still 10 (some .int) :: ([.fieldLink RX5 57 "GorgeRowModel" "thrown" "I", .constantLong RX5 186 (4), .constantLong RX5 188 (10), .methodLink RX5 63 yX5_in, .static yX5_in, .initialized RX5, .code yX5_in cX5_in 6 (some .boolean), .methodLink RX5 190 yX5_ten, .static yX5_ten, .code yX5_ten cX5_ten 3 (some .int), .methodLink RX5 113 yX5_has, .static yX5_has, .code yX5_has cX5_has 2 (some .boolean), .methodLink RX5 182 yX5_fraction, .static yX5_fraction, .code yX5_fraction cX5_fraction 4 (some .int), .methodLink RX5 168 yX5_divisor, .static yX5_divisor, .code yX5_divisor cX5_divisor 5 (some .int)] ++ wsX50)
def wsX5_pebbles : List Cond := .code yX5_pebbles cX5_pebbles 6 (some .int) :: ([.fieldLink RX5 57 "GorgeRowModel" "thrown" "I", .constantLong RX5 138 (5), .constantLong RX5 193 (50), .methodLink RX5 63 yX5_in, .static yX5_in, .initialized RX5, .code yX5_in cX5_in 6 (some .boolean)] ++ wsX50)
def wsX5_tell : List Cond := .code yX5_tell cX5_tell 3 (some .int) :: ([.fieldLink RX5 57 "GorgeRowModel" "thrown" "I", .constantLong RX5 195 (8), .fieldLink RX5 102 "GorgeRowModel" "told" "I", .fieldLink RX5 48 "GorgeRowModel" "toldMinute" "[I", .fieldLink RX5 51 "GorgeRowModel" "toldHeard" "[Z", .methodLink RX5 63 yX5_in, .static yX5_in, .initialized RX5, .code yX5_in cX5_in 6 (some .boolean)] ++ wsX50)
def wsX5_untell : List Cond := .code yX5_untell cX5_untell 2 (some .int) :: ([.fieldLink RX5 57 "GorgeRowModel" "thrown" "I", .fieldLink RX5 102 "GorgeRowModel" "told" "I"] ++ wsX50)
def wsX5_letGo : List Cond := .code yX5_letGo cX5_letGo 7 (some .int) :: ([.fieldLink RX5 57 "GorgeRowModel" "thrown" "I", .fieldLink RX5 102 "GorgeRowModel" "told" "I", .fieldLink RX5 48 "GorgeRowModel" "toldMinute" "[I", .fieldLink RX5 51 "GorgeRowModel" "toldHeard" "[Z"] ++ wsX50)
def wsX5_link : List Cond := .code yX5_link cX5_link 11 (some .int) :: ([.fieldLink RX5 57 "GorgeRowModel" "thrown" "I", .constantLong RX5 138 (5), .constantLong RX5 188 (10), .constantLong RX5 197 (6), .methodLink RX5 63 yX5_in, .static yX5_in, .initialized RX5, .code yX5_in cX5_in 6 (some .boolean), .methodLink RX5 113 yX5_has, .static yX5_has, .code yX5_has cX5_has 2 (some .boolean), .methodLink RX5 190 yX5_ten, .static yX5_ten, .code yX5_ten cX5_ten 3 (some .int), .methodLink RX5 182 yX5_fraction, .static yX5_fraction, .code yX5_fraction cX5_fraction 4 (some .int), .methodLink RX5 168 yX5_divisor, .static yX5_divisor, .code yX5_divisor cX5_divisor 5 (some .int)] ++ wsX50)
def wsX5_seed : List Cond := .code yX5_seed cX5_seed 5 (some .long) :: ([.fieldLink RX5 57 "GorgeRowModel" "thrown" "I", .fieldLink RX5 199 "GorgeRowModel" "seed" "J"] ++ wsX50)
def wsX5_gorges_r1 : List Cond := [Cond.fieldLink RX5 57 "GorgeRowModel" "thrown" "I", Cond.constantLong RX5 203 (20), Cond.fieldLink RX5 35 "GorgeRowModel" "trial" "[I", Cond.fieldLink RX5 13 "GorgeRowModel" "light" "I", Cond.fieldLink RX5 199 "GorgeRowModel" "seed" "J", Cond.constantLong RX5 205 (6364136223846793005), Cond.constantLong RX5 207 (1442695040888963407), Cond.constantLong RX5 209 (32), Cond.methodLink RX5 63 yX5_in, Cond.static yX5_in, Cond.initialized RX5, Cond.code yX5_in cX5_in 6 (some .boolean), Cond.methodLink RX5 148 yX5_begin, Cond.instanceMethod yX5_begin, Cond.selects RX5 yX5_begin yX5_begin, Cond.code yX5_begin cX5_begin 2 none, Cond.fieldLink RX5 32 "GorgeRowModel" "page" "[I", Cond.methodLink RX5 127 yX5_goMinute, Cond.instanceMethod yX5_goMinute, Cond.selects RX5 yX5_goMinute yX5_goMinute, Cond.code yX5_goMinute cX5_goMinute 7 (some .int), Cond.fieldLink RX5 23 "GorgeRowModel" "kind" "[I", Cond.fieldLink RX5 121 "GorgeRowModel" "turned" "I", Cond.fieldLink RX5 20 "GorgeRowModel" "nerve" "[I"]
def wsX5_gorges_r2 : List Cond := [Cond.methodLink RX5 117 yX5_isHeard, Cond.instanceMethod yX5_isHeard, Cond.selects RX5 yX5_isHeard yX5_isHeard, Cond.code yX5_isHeard cX5_isHeard 5 (some .boolean), Cond.fieldLink RX5 17 "GorgeRowModel" "water" "I", Cond.methodLink RX5 113 yX5_has, Cond.static yX5_has, Cond.code yX5_has cX5_has 2 (some .boolean)]
def wsX5_gorges : List Cond := .code yX5_gorges cX5_gorges 4 (some .int) :: ((wsX5_gorges_r1 ++ wsX5_gorges_r2) ++ wsX50)
def wsX5_keep : List Cond := .code yX5_keep cX5_keep 3 (some .int) :: ([.fieldLink RX5 57 "GorgeRowModel" "thrown" "I", .fieldLink RX5 44 "GorgeRowModel" "isKept" "[Z", .fieldLink RX5 41 "GorgeRowModel" "kept" "[I", .fieldLink RX5 32 "GorgeRowModel" "page" "[I", .methodLink RX5 63 yX5_in, .static yX5_in, .initialized RX5, .code yX5_in cX5_in 6 (some .boolean)] ++ wsX50)
def wsX5_again : List Cond := .code yX5_again cX5_again 3 (some .int) :: ([.fieldLink RX5 57 "GorgeRowModel" "thrown" "I", .fieldLink RX5 44 "GorgeRowModel" "isKept" "[Z", .fieldLink RX5 32 "GorgeRowModel" "page" "[I", .fieldLink RX5 41 "GorgeRowModel" "kept" "[I", .fieldLink RX5 92 "GorgeRowModel" "acts" "I", .methodLink RX5 63 yX5_in, .static yX5_in, .initialized RX5, .code yX5_in cX5_in 6 (some .boolean)] ++ wsX50)
def wsJ9_abs_067f4 : List Cond := .code yJ9_abs_067f4 cJ9_abs_067f4 2 (some .long) :: ([])
def wsJ9_max_7cf53 : List Cond := .code yJ9_max_7cf53 cJ9_max_7cf53 2 (some .int) :: ([])
def wsL_law_r1 : List Cond := [Cond.classLink RL 7 RX4, Cond.instantiable RX4 11, Cond.initialized RX4, Cond.classLink RL 10 RX5, Cond.instantiable RX5 28, Cond.initialized RX5, Cond.constantLong RL 56 (4294967295), Cond.methodLink RL 9 yX4_init, Cond.instanceMethod yX4_init, Cond.code yX4_init cX4_init 1 none, Cond.methodLink RX4 1 objectInit, Cond.instanceMethod objectInit, Cond.code objectInit ⟨#[0xb1]⟩ 1 none, Cond.classLink RX4 7 RX2, Cond.instantiable RX2 2, Cond.initialized RX2, Cond.fieldLink RX4 10 "GorgeRow" "text" "LGorgeRow$Text;", Cond.classLink RX4 16 RX1, Cond.instantiable RX1 5, Cond.initialized RX1, Cond.fieldLink RX4 19 "GorgeRow" "path" "LGorgeRow$Path;", Cond.classLink RX4 23 RX3, Cond.instantiable RX3 5, Cond.initialized RX3]
def wsL_law_r2 : List Cond := [Cond.fieldLink RX4 28 "GorgeRow" "now" "LGorgeRow$Walk;", Cond.fieldLink RX4 32 "GorgeRow" "trial" "LGorgeRow$Walk;", Cond.arrayClass .long, Cond.fieldLink RX4 35 "GorgeRow" "acts" "[J", Cond.fieldLink RX4 39 "GorgeRow" "actCount" "I", Cond.constantLong RX4 43 (-1), Cond.fieldLink RX4 45 "GorgeRow" "kept" "[J", Cond.fieldLink RX4 48 "GorgeRow" "heardMinutes" "I", Cond.fieldLink RX4 51 "GorgeRow" "silentMinutes" "I", Cond.fieldLink RX4 54 "GorgeRow" "toldCount" "I", Cond.fieldLink RX4 57 "GorgeRow" "seedNow" "J", Cond.instanceMethod yX2_init, Cond.code yX2_init cX2_init 1 none, Cond.methodLink RX2 3 objectInit, Cond.arrayClass .int, Cond.fieldLink RX2 9 "GorgeRow$Text" "bytes" "[I", Cond.fieldLink RX2 15 "GorgeRow$Text" "length" "I", Cond.instanceMethod yX1_init, Cond.code yX1_init cX1_init 1 none, Cond.methodLink RX1 1 objectInit, Cond.fieldLink RX1 7 "GorgeRow$Path" "walkers" "I", Cond.fieldLink RX1 13 "GorgeRow$Path" "light" "I", Cond.fieldLink RX1 16 "GorgeRow$Path" "water" "I", Cond.fieldLink RX1 19 "GorgeRow$Path" "nerves" "I"]
def wsL_law_r3 : List Cond := [Cond.fieldLink RX1 22 "GorgeRow$Path" "kinds" "I", Cond.methodLink RX4 25 yX3_init, Cond.instanceMethod yX3_init, Cond.code yX3_init cX3_init 2 none, Cond.methodLink RX3 5 objectInit, Cond.fieldLink RX3 11 "GorgeRow$Walk" "row" "I", Cond.fieldLink RX3 15 "GorgeRow$Walk" "quiets" "I", Cond.fieldLink RX3 18 "GorgeRow$Walk" "place" "I", Cond.fieldLink RX3 21 "GorgeRow$Walk" "turned" "I", Cond.fieldLink RX3 24 "GorgeRow$Walk" "path" "LGorgeRow$Path;", Cond.methodLink RL 12 yX5_init, Cond.instanceMethod yX5_init, Cond.code yX5_init cX5_init 1 none, Cond.methodLink RX5 1 objectInit, Cond.fieldLink RX5 7 "GorgeRowModel" "text" "[I", Cond.fieldLink RX5 13 "GorgeRowModel" "light" "I", Cond.fieldLink RX5 17 "GorgeRowModel" "water" "I", Cond.fieldLink RX5 20 "GorgeRowModel" "nerve" "[I", Cond.fieldLink RX5 23 "GorgeRowModel" "kind" "[I", Cond.fieldLink RX5 26 "GorgeRowModel" "readNerve" "[I", Cond.fieldLink RX5 29 "GorgeRowModel" "readKind" "[I", Cond.fieldLink RX5 32 "GorgeRowModel" "page" "[I", Cond.fieldLink RX5 35 "GorgeRowModel" "trial" "[I", Cond.fieldLink RX5 38 "GorgeRowModel" "book" "[I"]
def wsL_law_r4 : List Cond := [Cond.fieldLink RX5 41 "GorgeRowModel" "kept" "[I", Cond.arrayClass .boolean, Cond.fieldLink RX5 44 "GorgeRowModel" "isKept" "[Z", Cond.fieldLink RX5 48 "GorgeRowModel" "toldMinute" "[I", Cond.fieldLink RX5 51 "GorgeRowModel" "toldHeard" "[Z", Cond.fieldLink RX5 54 "GorgeRowModel" "worth" "[I", Cond.methodLink RL 13 yX4_write, Cond.instanceMethod yX4_write, Cond.selects RX4 yX4_write yX4_write, Cond.code yX4_write cX4_write 2 (some .int), Cond.methodLink RX4 61 yX4_within, Cond.static yX4_within, Cond.code yX4_within cX4_within 3 (some .boolean), Cond.methodLink RX4 65 yX2_append, Cond.instanceMethod yX2_append, Cond.selects RX2 yX2_append yX2_append, Cond.code yX2_append cX2_append 2 (some .boolean), Cond.methodLink RX4 69 yX2_length, Cond.instanceMethod yX2_length, Cond.selects RX2 yX2_length yX2_length, Cond.code yX2_length cX2_length 1 (some .int), Cond.methodLink RL 17 yX5_write, Cond.instanceMethod yX5_write, Cond.selects RX5 yX5_write yX5_write]
def wsL_law_r5 : List Cond := [Cond.code yX5_write cX5_write 2 (some .int), Cond.fieldLink RX5 57 "GorgeRowModel" "thrown" "I", Cond.constantLong RX5 67 (255), Cond.fieldLink RX5 69 "GorgeRowModel" "textSize" "I", Cond.methodLink RX5 63 yX5_in, Cond.static yX5_in, Cond.code yX5_in cX5_in 6 (some .boolean), Cond.methodLink RL 18 yX4_wipe, Cond.instanceMethod yX4_wipe, Cond.selects RX4 yX4_wipe yX4_wipe, Cond.code yX4_wipe cX4_wipe 2 (some .int), Cond.methodLink RX4 73 yX2_clear, Cond.instanceMethod yX2_clear, Cond.selects RX2 yX2_clear yX2_clear, Cond.code yX2_clear cX2_clear 1 none, Cond.methodLink RL 22 yX5_wipe, Cond.instanceMethod yX5_wipe, Cond.selects RX5 yX5_wipe yX5_wipe, Cond.code yX5_wipe cX5_wipe 2 (some .int), Cond.methodLink RL 23 yX4_fault, Cond.instanceMethod yX4_fault, Cond.selects RX4 yX4_fault yX4_fault, Cond.code yX4_fault cX4_fault 1 (some .int), Cond.methodLink RX4 76 yX2_firstFault]
def wsL_law_r6 : List Cond := [Cond.instanceMethod yX2_firstFault, Cond.selects RX2 yX2_firstFault yX2_firstFault, Cond.code yX2_firstFault cX2_firstFault 2 (some .int), Cond.methodLink RX2 26 yX2_fits, Cond.instanceMethod yX2_fits, Cond.selects RX2 yX2_fits yX2_fits, Cond.code yX2_fits cX2_fits 2 (some .boolean), Cond.methodLink RX2 19 yX2_byteAt, Cond.instanceMethod yX2_byteAt, Cond.selects RX2 yX2_byteAt yX2_byteAt, Cond.code yX2_byteAt cX2_byteAt 2 (some .int), Cond.methodLink RX2 23 yX2_figure, Cond.instanceMethod yX2_figure, Cond.selects RX2 yX2_figure yX2_figure, Cond.code yX2_figure cX2_figure 2 (some .int), Cond.methodLink RX2 34 yX2_fitsPart, Cond.instanceMethod yX2_fitsPart, Cond.selects RX2 yX2_fitsPart yX2_fitsPart, Cond.code yX2_fitsPart cX2_fitsPart 2 (some .boolean), Cond.methodLink RL 26 yX5_fault, Cond.instanceMethod yX5_fault, Cond.selects RX5 yX5_fault yX5_fault, Cond.code yX5_fault cX5_fault 1 (some .int), Cond.methodLink RX5 88 yX5_readGorge]
def wsL_law_r7 : List Cond := [Cond.instanceMethod yX5_readGorge, Cond.selects RX5 yX5_readGorge yX5_readGorge, Cond.code yX5_readGorge cX5_readGorge 3 (some .int), Cond.fieldLink RX5 72 "GorgeRowModel" "place" "I", Cond.fieldLink RX5 75 "GorgeRowModel" "readWalkers" "I", Cond.fieldLink RX5 82 "GorgeRowModel" "readLight" "I", Cond.fieldLink RX5 85 "GorgeRowModel" "readWater" "I", Cond.methodLink RX5 78 yX5_figure, Cond.instanceMethod yX5_figure, Cond.selects RX5 yX5_figure yX5_figure, Cond.code yX5_figure cX5_figure 3 (some .int), Cond.methodLink RL 27 yX4_gorge, Cond.instanceMethod yX4_gorge, Cond.selects RX4 yX4_gorge yX4_gorge, Cond.code yX4_gorge cX4_gorge 1 (some .int), Cond.methodLink RX4 79 yX1_read, Cond.instanceMethod yX1_read, Cond.selects RX1 yX1_read yX1_read, Cond.code yX1_read cX1_read 3 none, Cond.methodLink RX1 25 yX2_figure, Cond.methodLink RX1 31 yX2_parts, Cond.instanceMethod yX2_parts, Cond.selects RX2 yX2_parts yX2_parts, Cond.code yX2_parts cX2_parts 1 (some .int)]
def wsL_law_r8 : List Cond := [Cond.methodLink RX1 35 yX2_nerve, Cond.instanceMethod yX2_nerve, Cond.selects RX2 yX2_nerve yX2_nerve, Cond.code yX2_nerve cX2_nerve 2 (some .int), Cond.methodLink RX1 38 yX0_with, Cond.static yX0_with, Cond.initialized RX0, Cond.code yX0_with cX0_with 3 (some .int), Cond.methodLink RX1 44 yX2_kind, Cond.instanceMethod yX2_kind, Cond.selects RX2 yX2_kind yX2_kind, Cond.code yX2_kind cX2_kind 2 (some .int), Cond.methodLink RX4 83 yX3_start, Cond.instanceMethod yX3_start, Cond.selects RX3 yX3_start yX3_start, Cond.code yX3_start cX3_start 1 none, Cond.methodLink RX3 55 yX1_everybody, Cond.instanceMethod yX1_everybody, Cond.selects RX1 yX1_everybody yX1_everybody, Cond.code yX1_everybody cX1_everybody 1 (some .int), Cond.methodLink RX3 58 yX0_ascending, Cond.static yX0_ascending, Cond.code yX0_ascending cX0_ascending 4 (some .int), Cond.methodLink RX0 15 yX0_with]
def wsL_law_r9 : List Cond := [Cond.methodLink RX3 61 yX3_lineUp, Cond.instanceMethod yX3_lineUp, Cond.selects RX3 yX3_lineUp yX3_lineUp, Cond.code yX3_lineUp cX3_lineUp 3 none, Cond.methodLink RX4 86 yX4_forgetKept, Cond.instanceMethod yX4_forgetKept, Cond.selects RX4 yX4_forgetKept yX4_forgetKept, Cond.code yX4_forgetKept cX4_forgetKept 2 none, Cond.methodLink RX4 89 yX1_walkers, Cond.instanceMethod yX1_walkers, Cond.selects RX1 yX1_walkers yX1_walkers, Cond.code yX1_walkers cX1_walkers 1 (some .int), Cond.methodLink RL 30 yX5_gorge, Cond.instanceMethod yX5_gorge, Cond.selects RX5 yX5_gorge yX5_gorge, Cond.code yX5_gorge cX5_gorge 2 (some .int), Cond.fieldLink RX5 60 "GorgeRowModel" "walkers" "I", Cond.fieldLink RX5 92 "GorgeRowModel" "acts" "I", Cond.methodLink RL 31 yX4_about, Cond.instanceMethod yX4_about, Cond.selects RX4 yX4_about yX4_about, Cond.code yX4_about cX4_about 2 (some .int), Cond.methodLink RX4 92 yX1_light, Cond.instanceMethod yX1_light]
def wsL_law_r10 : List Cond := [Cond.selects RX1 yX1_light yX1_light, Cond.code yX1_light cX1_light 1 (some .int), Cond.methodLink RX4 95 yX1_water, Cond.instanceMethod yX1_water, Cond.selects RX1 yX1_water yX1_water, Cond.code yX1_water cX1_water 1 (some .int), Cond.methodLink RX4 98 yX3_place, Cond.instanceMethod yX3_place, Cond.selects RX3 yX3_place yX3_place, Cond.code yX3_place cX3_place 1 (some .int), Cond.methodLink RX4 101 yX3_members, Cond.instanceMethod yX3_members, Cond.selects RX3 yX3_members yX3_members, Cond.code yX3_members cX3_members 1 (some .int), Cond.methodLink RX3 34 yX0_members, Cond.static yX0_members, Cond.code yX0_members cX0_members 3 (some .int), Cond.methodLink RX0 19 yX0_size, Cond.static yX0_size, Cond.code yX0_size cX0_size 2 (some .int), Cond.methodLink RX0 9 yX0_at, Cond.static yX0_at, Cond.code yX0_at cX0_at 2 (some .int), Cond.methodLink RX4 104 yX1_everybody]
def wsL_law_r11 : List Cond := [Cond.methodLink RX4 107 yX3_row, Cond.instanceMethod yX3_row, Cond.selects RX3 yX3_row yX3_row, Cond.code yX3_row cX3_row 1 (some .int), Cond.methodLink RX4 110 yX0_figures, Cond.static yX0_figures, Cond.code yX0_figures cX0_figures 3 (some .int), Cond.methodLink RX4 116 yX3_isOut, Cond.instanceMethod yX3_isOut, Cond.selects RX3 yX3_isOut yX3_isOut, Cond.code yX3_isOut cX3_isOut 1 (some .boolean), Cond.methodLink RX3 37 yX1_light, Cond.methodLink RL 34 yX5_about, Cond.instanceMethod yX5_about, Cond.selects RX5 yX5_about yX5_about, Cond.code yX5_about cX5_about 2 (some .int), Cond.fieldLink RX5 102 "GorgeRowModel" "told" "I", Cond.methodLink RX5 95 yX5_rowOf, Cond.static yX5_rowOf, Cond.code yX5_rowOf cX5_rowOf 3 (some .int), Cond.methodLink RX5 99 yX5_figuresOf, Cond.static yX5_figuresOf, Cond.code yX5_figuresOf cX5_figuresOf 3 (some .int), Cond.methodLink RL 35 yX4_walker]
def wsL_law_r12 : List Cond := [Cond.instanceMethod yX4_walker, Cond.selects RX4 yX4_walker yX4_walker, Cond.code yX4_walker cX4_walker 3 (some .int), Cond.methodLink RX4 120 yX1_has, Cond.instanceMethod yX1_has, Cond.selects RX1 yX1_has yX1_has, Cond.code yX1_has cX1_has 2 (some .boolean), Cond.methodLink RX4 123 yX1_nerve, Cond.instanceMethod yX1_nerve, Cond.selects RX1 yX1_nerve yX1_nerve, Cond.code yX1_nerve cX1_nerve 2 (some .int), Cond.methodLink RX1 53 yX0_at, Cond.methodLink RX4 126 yX1_kind, Cond.instanceMethod yX1_kind, Cond.selects RX1 yX1_kind yX1_kind, Cond.code yX1_kind cX1_kind 2 (some .int), Cond.methodLink RX4 129 yX3_quiet, Cond.instanceMethod yX3_quiet, Cond.selects RX3 yX3_quiet yX3_quiet, Cond.code yX3_quiet cX3_quiet 2 (some .int), Cond.methodLink RX3 43 yX0_at, Cond.methodLink RX4 132 yX3_indexOf, Cond.instanceMethod yX3_indexOf, Cond.selects RX3 yX3_indexOf yX3_indexOf]
def wsL_law_r13 : List Cond := [Cond.code yX3_indexOf cX3_indexOf 3 (some .int), Cond.methodLink RX3 47 yX3_size, Cond.instanceMethod yX3_size, Cond.selects RX3 yX3_size yX3_size, Cond.code yX3_size cX3_size 1 (some .int), Cond.methodLink RX3 28 yX0_size, Cond.methodLink RX3 49 yX3_walkerAt, Cond.instanceMethod yX3_walkerAt, Cond.selects RX3 yX3_walkerAt yX3_walkerAt, Cond.code yX3_walkerAt cX3_walkerAt 2 (some .int), Cond.methodLink RX4 135 yX3_behind, Cond.instanceMethod yX3_behind, Cond.selects RX3 yX3_behind yX3_behind, Cond.code yX3_behind cX3_behind 3 (some .int), Cond.methodLink RX3 52 yX3_indexOf, Cond.methodLink RL 39 yX5_walker, Cond.instanceMethod yX5_walker, Cond.selects RX5 yX5_walker yX5_walker, Cond.code yX5_walker cX5_walker 4 (some .int), Cond.methodLink RX5 105 yX5_noOne, Cond.instanceMethod yX5_noOne, Cond.selects RX5 yX5_noOne yX5_noOne, Cond.code yX5_noOne cX5_noOne 2 (some .boolean), Cond.methodLink RX5 109 yX5_placeOf]
def wsL_law_r14 : List Cond := [Cond.static yX5_placeOf, Cond.code yX5_placeOf cX5_placeOf 4 (some .int), Cond.methodLink RL 40 yX4_minute, Cond.instanceMethod yX4_minute, Cond.selects RX4 yX4_minute yX4_minute, Cond.code yX4_minute cX4_minute 2 (some .int), Cond.methodLink RX4 138 yX4_remember, Cond.instanceMethod yX4_remember, Cond.selects RX4 yX4_remember yX4_remember, Cond.code yX4_remember cX4_remember 1 none, Cond.methodLink RX4 158 arraycopyName, Cond.native arraycopyName, Cond.static arraycopyName, Cond.initialized "java/lang/System", Cond.methodLink RX4 164 yX3_state, Cond.instanceMethod yX3_state, Cond.selects RX3 yX3_state yX3_state, Cond.code yX3_state cX3_state 1 (some .long), Cond.methodLink RX4 141 yX3_step, Cond.instanceMethod yX3_step, Cond.selects RX3 yX3_step yX3_step, Cond.code yX3_step cX3_step 6 (some .int), Cond.methodLink RX3 87 yX1_kind, Cond.methodLink RX3 90 yX3_isHeard]
def wsL_law_r15 : List Cond := [Cond.instanceMethod yX3_isHeard, Cond.selects RX3 yX3_isHeard yX3_isHeard, Cond.code yX3_isHeard cX3_isHeard 6 (some .boolean), Cond.methodLink RX3 97 yX1_water, Cond.methodLink RX3 73 yX3_quiet, Cond.methodLink RX3 70 yX3_setQuiet, Cond.instanceMethod yX3_setQuiet, Cond.selects RX3 yX3_setQuiet yX3_setQuiet, Cond.code yX3_setQuiet cX3_setQuiet 3 none, Cond.methodLink RX3 106 yX0_with, Cond.methodLink RX3 94 yX3_turnRound, Cond.instanceMethod yX3_turnRound, Cond.selects RX3 yX3_turnRound yX3_turnRound, Cond.code yX3_turnRound cX3_turnRound 4 (some .int), Cond.methodLink RX3 100 yX1_nerve, Cond.methodLink RX3 103 yX0_without, Cond.static yX0_without, Cond.code yX0_without cX0_without 3 (some .int), Cond.methodLink RL 43 yX5_minute, Cond.instanceMethod yX5_minute, Cond.selects RX5 yX5_minute yX5_minute, Cond.code yX5_minute cX5_minute 2 (some .int), Cond.methodLink RX5 124 yX5_note, Cond.instanceMethod yX5_note]
def wsL_law_r16 : List Cond := [Cond.selects RX5 yX5_note yX5_note, Cond.code yX5_note cX5_note 2 none, Cond.methodLink RX5 127 yX5_goMinute, Cond.instanceMethod yX5_goMinute, Cond.selects RX5 yX5_goMinute yX5_goMinute, Cond.code yX5_goMinute cX5_goMinute 7 (some .int), Cond.fieldLink RX5 121 "GorgeRowModel" "turned" "I", Cond.methodLink RX5 117 yX5_isHeard, Cond.instanceMethod yX5_isHeard, Cond.selects RX5 yX5_isHeard yX5_isHeard, Cond.code yX5_isHeard cX5_isHeard 5 (some .boolean), Cond.methodLink RX5 113 yX5_has, Cond.static yX5_has, Cond.code yX5_has cX5_has 2 (some .boolean), Cond.methodLink RL 44 yX4_change, Cond.instanceMethod yX4_change, Cond.selects RX4 yX4_change yX4_change, Cond.code yX4_change cX4_change 2 (some .int), Cond.methodLink RX4 144 yX3_size, Cond.methodLink RX4 147 yX3_changePlaces, Cond.instanceMethod yX3_changePlaces, Cond.selects RX3 yX3_changePlaces yX3_changePlaces, Cond.code yX3_changePlaces cX3_changePlaces 2 none, Cond.methodLink RX3 66 yX0_swapped]
def wsL_law_r17 : List Cond := [Cond.static yX0_swapped, Cond.code yX0_swapped cX0_swapped 3 (some .int), Cond.methodLink RL 47 yX5_change, Cond.instanceMethod yX5_change, Cond.selects RX5 yX5_change yX5_change, Cond.code yX5_change cX5_change 3 (some .int), Cond.constantLong RX5 130 (3), Cond.methodLink RL 48 yX4_rest, Cond.instanceMethod yX4_rest, Cond.selects RX4 yX4_rest yX4_rest, Cond.code yX4_rest cX4_rest 1 (some .int), Cond.methodLink RX4 151 yX3_calm, Cond.instanceMethod yX3_calm, Cond.selects RX3 yX3_calm yX3_calm, Cond.code yX3_calm cX3_calm 3 (some .int), Cond.methodLink RL 51 yX5_rest, Cond.instanceMethod yX5_rest, Cond.selects RX5 yX5_rest yX5_rest, Cond.code yX5_rest cX5_rest 3 (some .int), Cond.methodLink RL 52 yX4_undo, Cond.instanceMethod yX4_undo, Cond.selects RX4 yX4_undo yX4_undo, Cond.code yX4_undo cX4_undo 1 (some .int), Cond.methodLink RX4 154 yX3_become]
def wsL_law_r18 : List Cond := [Cond.instanceMethod yX3_become, Cond.selects RX3 yX3_become yX3_become, Cond.code yX3_become cX3_become 3 none, Cond.constant RX3 65 (1048575), Cond.methodLink RL 55 yX5_undo, Cond.instanceMethod yX5_undo, Cond.selects RX5 yX5_undo yX5_undo, Cond.code yX5_undo cX5_undo 2 (some .int), Cond.methodLink RL 58 yX4_left, Cond.instanceMethod yX4_left, Cond.selects RX4 yX4_left yX4_left, Cond.code yX4_left cX4_left 4 (some .int), Cond.methodLink RX4 168 yX4_isSong, Cond.static yX4_isSong, Cond.code yX4_isSong cX4_isSong 6 (some .boolean), Cond.constantLong RX4 209 (100), Cond.constantLong RX4 211 (31), Cond.methodLink RX4 172 yX3_sing, Cond.instanceMethod yX3_sing, Cond.selects RX3 yX3_sing yX3_sing, Cond.code yX3_sing cX3_sing 6 (some .int), Cond.methodLink RX3 76 yX3_isOut, Cond.methodLink RX3 80 yX3_treadsOf, Cond.static yX3_treadsOf]
def wsL_law_r19 : List Cond := [Cond.code yX3_treadsOf cX3_treadsOf 6 (some .int), Cond.constantLong RX3 109 (100), Cond.methodLink RX3 84 yX3_step, Cond.methodLink RL 62 yX5_left, Cond.instanceMethod yX5_left, Cond.selects RX5 yX5_left yX5_left, Cond.code yX5_left cX5_left 4 (some .int), Cond.methodLink RX5 144 yX5_noSong, Cond.static yX5_noSong, Cond.code yX5_noSong cX5_noSong 5 (some .boolean), Cond.constantLong RX5 138 (5), Cond.methodLink RX5 134 yX5_hundred, Cond.static yX5_hundred, Cond.code yX5_hundred cX5_hundred 4 (some .long), Cond.constantLong RX5 132 (100), Cond.methodLink RX5 140 yX5_treadsOf, Cond.static yX5_treadsOf, Cond.code yX5_treadsOf cX5_treadsOf 4 (some .int), Cond.methodLink RX5 148 yX5_begin, Cond.instanceMethod yX5_begin, Cond.selects RX5 yX5_begin yX5_begin, Cond.code yX5_begin cX5_begin 2 none, Cond.methodLink RX5 151 yX5_sing, Cond.instanceMethod yX5_sing]
def wsL_law_r20 : List Cond := [Cond.selects RX5 yX5_sing yX5_sing, Cond.code yX5_sing cX5_sing 7 (some .int), Cond.methodLink RL 63 yX4_firstTurn, Cond.instanceMethod yX4_firstTurn, Cond.selects RX4 yX4_firstTurn yX4_firstTurn, Cond.code yX4_firstTurn cX4_firstTurn 4 (some .int), Cond.methodLink RL 66 yX5_firstTurn, Cond.instanceMethod yX5_firstTurn, Cond.selects RX5 yX5_firstTurn yX5_firstTurn, Cond.code yX5_firstTurn cX5_firstTurn 4 (some .int), Cond.methodLink RL 67 yX4_order, Cond.instanceMethod yX4_order, Cond.selects RX4 yX4_order yX4_order, Cond.code yX4_order cX4_order 10 (some .int), Cond.methodLink RX4 176 yX0_ascending, Cond.methodLink RX4 179 yX4_leftOf, Cond.instanceMethod yX4_leftOf, Cond.selects RX4 yX4_leftOf yX4_leftOf, Cond.code yX4_leftOf cX4_leftOf 5 (some .int), Cond.methodLink RX4 205 yX3_lineUp, Cond.methodLink RX4 183 yX0_nextOrder, Cond.static yX0_nextOrder, Cond.code yX0_nextOrder cX0_nextOrder 7 (some .int), Cond.methodLink RX0 26 yX0_swapped]
def wsL_law_r21 : List Cond := [Cond.methodLink RL 71 yX5_order, Cond.instanceMethod yX5_order, Cond.selects RX5 yX5_order yX5_order, Cond.code yX5_order cX5_order 5 (some .int), Cond.fieldLink RX5 155 "GorgeRowModel" "orderBest" "I", Cond.fieldLink RX5 158 "GorgeRowModel" "orderMany" "I", Cond.methodLink RX5 164 yX5_findOrder, Cond.instanceMethod yX5_findOrder, Cond.selects RX5 yX5_findOrder yX5_findOrder, Cond.code yX5_findOrder cX5_findOrder 11 none, Cond.methodLink RX5 161 yX5_hush, Cond.instanceMethod yX5_hush, Cond.selects RX5 yX5_hush yX5_hush, Cond.code yX5_hush cX5_hush 2 none, Cond.methodLink RL 72 yX4_share, Cond.instanceMethod yX4_share, Cond.selects RX4 yX4_share yX4_share, Cond.code yX4_share cX4_share 14 (some .int), Cond.methodLink RX4 186 yX4_fraction, Cond.static yX4_fraction, Cond.code yX4_fraction cX4_fraction 7 (some .int), Cond.methodLink RX4 234 Lib.MathLoose.abs_long.x, Cond.static Lib.MathLoose.abs_long.x, Cond.initialized "java/lang/Math"]
def wsL_law_r22 : List Cond := [Cond.code Lib.MathLoose.abs_long.x Lib.MathLoose.abs_long.code 2 (some .long), Cond.methodLink RX4 238 yX4_commonDivisor, Cond.static yX4_commonDivisor, Cond.code yX4_commonDivisor cX4_commonDivisor 11 (some .long), Cond.methodLink RX4 190 yJ6_bitCount_0f7a4, Cond.static yJ6_bitCount_0f7a4, Cond.initialized RJ6, Cond.code yJ6_bitCount_0f7a4 cJ6_bitCount_0f7a4 1 (some .int), Cond.constant RJ6 265 (1431655765), Cond.constant RJ6 266 (858993459), Cond.constant RJ6 267 (252645135), Cond.methodLink RX4 195 yX0_only, Cond.static yX0_only, Cond.code yX0_only cX0_only 4 (some .int), Cond.methodLink RX0 23 yX0_without, Cond.methodLink RX4 199 yX4_factorial, Cond.static yX4_factorial, Cond.code yX4_factorial cX4_factorial 3 (some .int), Cond.methodLink RL 76 yX5_share, Cond.instanceMethod yX5_share, Cond.selects RX5 yX5_share yX5_share, Cond.code yX5_share cX5_share 11 (some .int), Cond.methodLink RX5 171 yX5_worthOf, Cond.instanceMethod yX5_worthOf]
def wsL_law_r23 : List Cond := [Cond.selects RX5 yX5_worthOf yX5_worthOf, Cond.code yX5_worthOf cX5_worthOf 7 (some .int), Cond.methodLink RX5 175 yX5_many, Cond.static yX5_many, Cond.code yX5_many cX5_many 3 (some .int), Cond.methodLink RX5 179 yX5_orders, Cond.static yX5_orders, Cond.code yX5_orders cX5_orders 3 (some .int), Cond.methodLink RX5 182 yX5_fraction, Cond.static yX5_fraction, Cond.code yX5_fraction cX5_fraction 4 (some .int), Cond.methodLink RX5 168 yX5_divisor, Cond.static yX5_divisor, Cond.code yX5_divisor cX5_divisor 5 (some .int), Cond.methodLink RL 77 yX4_bears, Cond.instanceMethod yX4_bears, Cond.selects RX4 yX4_bears yX4_bears, Cond.code yX4_bears cX4_bears 4 (some .int), Cond.methodLink RX4 202 yX3_turned, Cond.instanceMethod yX3_turned, Cond.selects RX3 yX3_turned yX3_turned, Cond.code yX3_turned cX3_turned 1 (some .int), Cond.methodLink RL 80 yX5_bears, Cond.instanceMethod yX5_bears]
def wsL_law_r24 : List Cond := [Cond.selects RX5 yX5_bears yX5_bears, Cond.code yX5_bears cX5_bears 3 (some .int), Cond.methodLink RL 81 yX4_still, Cond.instanceMethod yX4_still, Cond.selects RX4 yX4_still yX4_still, Cond.code yX4_still cX4_still 12 (some .int), Cond.constantLong RX4 216 (10), Cond.methodLink RX4 213 yX4_isTenths, Cond.static yX4_isTenths, Cond.code yX4_isTenths cX4_isTenths 1 (some .boolean), Cond.methodLink RL 85 yX5_still, Cond.instanceMethod yX5_still, Cond.selects RX5 yX5_still yX5_still, Cond.code yX5_still cX5_still 10 (some .int), Cond.constantLong RX5 186 (4), Cond.constantLong RX5 188 (10), Cond.methodLink RX5 190 yX5_ten, Cond.static yX5_ten, Cond.code yX5_ten cX5_ten 3 (some .int), Cond.methodLink RL 86 yX4_pebbles, Cond.instanceMethod yX4_pebbles, Cond.selects RX4 yX4_pebbles yX4_pebbles, Cond.code yX4_pebbles cX4_pebbles 6 (some .int), Cond.methodLink RL 90 yX5_pebbles]
def wsL_law_r25 : List Cond := [Cond.instanceMethod yX5_pebbles, Cond.selects RX5 yX5_pebbles yX5_pebbles, Cond.code yX5_pebbles cX5_pebbles 6 (some .int), Cond.constantLong RX5 193 (50), Cond.methodLink RL 91 yX4_tell, Cond.instanceMethod yX4_tell, Cond.selects RX4 yX4_tell yX4_tell, Cond.code yX4_tell cX4_tell 3 (some .int), Cond.methodLink RL 95 yX5_tell, Cond.instanceMethod yX5_tell, Cond.selects RX5 yX5_tell yX5_tell, Cond.code yX5_tell cX5_tell 3 (some .int), Cond.constantLong RX5 195 (8), Cond.methodLink RL 96 yX4_untell, Cond.instanceMethod yX4_untell, Cond.selects RX4 yX4_untell yX4_untell, Cond.code yX4_untell cX4_untell 2 (some .int), Cond.methodLink RL 99 yX5_untell, Cond.instanceMethod yX5_untell, Cond.selects RX5 yX5_untell yX5_untell, Cond.code yX5_untell cX5_untell 2 (some .int), Cond.methodLink RL 100 yX4_letGo, Cond.instanceMethod yX4_letGo, Cond.selects RX4 yX4_letGo yX4_letGo]
def wsL_law_r26 : List Cond := [Cond.code yX4_letGo cX4_letGo 7 (some .int), Cond.methodLink RL 104 yX5_letGo, Cond.instanceMethod yX5_letGo, Cond.selects RX5 yX5_letGo yX5_letGo, Cond.code yX5_letGo cX5_letGo 7 (some .int), Cond.methodLink RL 105 yX4_link, Cond.instanceMethod yX4_link, Cond.selects RX4 yX4_link yX4_link, Cond.code yX4_link cX4_link 9 (some .int), Cond.methodLink RX4 218 yX4_longestSilence, Cond.static yX4_longestSilence, Cond.code yX4_longestSilence cX4_longestSilence 5 (some .int), Cond.methodLink RX4 229 Lib.Math.max.name, Cond.static Lib.Math.max.name, Cond.code Lib.Math.max.name Lib.Math.max.code 2 (some .int), Cond.methodLink RX4 221 yX4_power, Cond.static yX4_power, Cond.code yX4_power cX4_power 5 (some .long), Cond.methodLink RL 109 yX5_link, Cond.instanceMethod yX5_link, Cond.selects RX5 yX5_link yX5_link, Cond.code yX5_link cX5_link 11 (some .int), Cond.constantLong RX5 197 (6), Cond.methodLink RL 110 yX4_seed]
def wsL_law_r27 : List Cond := [Cond.instanceMethod yX4_seed, Cond.selects RX4 yX4_seed yX4_seed, Cond.code yX4_seed cX4_seed 5 (some .long), Cond.methodLink RL 114 yX5_seed, Cond.instanceMethod yX5_seed, Cond.selects RX5 yX5_seed yX5_seed, Cond.code yX5_seed cX5_seed 5 (some .long), Cond.fieldLink RX5 199 "GorgeRowModel" "seed" "J", Cond.methodLink RL 115 yX4_gorges, Cond.instanceMethod yX4_gorges, Cond.selects RX4 yX4_gorges yX4_gorges, Cond.code yX4_gorges cX4_gorges 6 (some .int), Cond.constantLong RX4 225 (6364136223846793005), Cond.constantLong RX4 227 (1442695040888963407), Cond.methodLink RL 118 yX5_gorges, Cond.instanceMethod yX5_gorges, Cond.selects RX5 yX5_gorges yX5_gorges, Cond.code yX5_gorges cX5_gorges 4 (some .int), Cond.constantLong RX5 203 (20), Cond.constantLong RX5 205 (6364136223846793005), Cond.constantLong RX5 207 (1442695040888963407), Cond.constantLong RX5 209 (32), Cond.methodLink RL 119 yX4_keep, Cond.instanceMethod yX4_keep]
def wsL_law_r28 : List Cond := [Cond.selects RX4 yX4_keep yX4_keep, Cond.code yX4_keep cX4_keep 2 (some .int), Cond.methodLink RL 122 yX5_keep, Cond.instanceMethod yX5_keep, Cond.selects RX5 yX5_keep yX5_keep, Cond.code yX5_keep cX5_keep 3 (some .int), Cond.methodLink RL 123 yX4_again, Cond.instanceMethod yX4_again, Cond.selects RX4 yX4_again yX4_again, Cond.code yX4_again cX4_again 2 (some .int), Cond.methodLink RL 126 yX5_again, Cond.instanceMethod yX5_again, Cond.selects RX5 yX5_again yX5_again, Cond.code yX5_again cX5_again 3 (some .int)]
def wsL_law : List Cond := (wsL_law_r1 ++ (wsL_law_r2 ++ (wsL_law_r3 ++ (wsL_law_r4 ++ (wsL_law_r5 ++ (wsL_law_r6 ++ (wsL_law_r7 ++ (wsL_law_r8 ++ (wsL_law_r9 ++ (wsL_law_r10 ++ (wsL_law_r11 ++ (wsL_law_r12 ++ (wsL_law_r13 ++ (wsL_law_r14 ++ (wsL_law_r15 ++ (wsL_law_r16 ++ (wsL_law_r17 ++ (wsL_law_r18 ++ (wsL_law_r19 ++ (wsL_law_r20 ++ (wsL_law_r21 ++ (wsL_law_r22 ++ (wsL_law_r23 ++ (wsL_law_r24 ++ (wsL_law_r25 ++ (wsL_law_r26 ++ (wsL_law_r27 ++ wsL_law_r28))))))))))))))))))))))))))) ++ wsX40 ++ wsX50 ++ wsX20 ++ wsX10 ++ wsX30 ++ ([] : List Cond)

theorem lq_0 {w : Cond} (h : w ∈ k2_sels lw_privs) : w ∈ lw_tbl := List.mem_append_left _ h
theorem lq_1 {w : Cond} (h : w ∈ tables_1_1) : w ∈ lw_tbl := List.mem_append_right _ (List.mem_append_left _ h)
theorem lq_2 {w : Cond} (h : w ∈ tables_1_2) : w ∈ lw_tbl := List.mem_append_right _ (List.mem_append_right _ (List.mem_append_left _ h))
theorem lq_3 {w : Cond} (h : w ∈ tables_1_3) : w ∈ lw_tbl := List.mem_append_right _ (List.mem_append_right _ (List.mem_append_right _ (List.mem_append_left _ h)))
theorem lq_4 {w : Cond} (h : w ∈ tables_1_4) : w ∈ lw_tbl := List.mem_append_right _ (List.mem_append_right _ (List.mem_append_right _ (List.mem_append_right _ (h))))
set_option maxRecDepth 20000 in
theorem wl_r1 : ∀ w ∈ wsL_law_r1, w ∈ lw_tbl := List.forall_mem_cons.mpr ⟨lq_1 (List.mem_of_getElem? (i := 10) rfl), List.forall_mem_cons.mpr ⟨lq_1 (List.mem_of_getElem? (i := 11) rfl), List.forall_mem_cons.mpr ⟨lq_1 (List.mem_of_getElem? (i := 1) rfl), List.forall_mem_cons.mpr ⟨lq_3 (List.mem_of_getElem? (i := 5) rfl), List.forall_mem_cons.mpr ⟨lq_3 (List.mem_of_getElem? (i := 6) rfl), List.forall_mem_cons.mpr ⟨lq_1 (List.mem_of_getElem? (i := 5) rfl), List.forall_mem_cons.mpr ⟨lq_4 (List.mem_of_getElem? (i := 53) rfl), List.forall_mem_cons.mpr ⟨lq_1 (List.mem_of_getElem? (i := 12) rfl), List.forall_mem_cons.mpr ⟨lq_1 (List.mem_of_getElem? (i := 13) rfl), List.forall_mem_cons.mpr ⟨lq_1 (List.mem_of_getElem? (i := 14) rfl), List.forall_mem_cons.mpr ⟨lq_1 (List.mem_of_getElem? (i := 15) rfl), List.forall_mem_cons.mpr ⟨lq_1 (List.mem_of_getElem? (i := 16) rfl), List.forall_mem_cons.mpr ⟨lq_1 (List.mem_of_getElem? (i := 17) rfl), List.forall_mem_cons.mpr ⟨lq_1 (List.mem_of_getElem? (i := 18) rfl), List.forall_mem_cons.mpr ⟨lq_1 (List.mem_of_getElem? (i := 19) rfl), List.forall_mem_cons.mpr ⟨lq_1 (List.mem_of_getElem? (i := 2) rfl), List.forall_mem_cons.mpr ⟨lq_1 (List.mem_of_getElem? (i := 77) rfl), List.forall_mem_cons.mpr ⟨lq_1 (List.mem_of_getElem? (i := 32) rfl), List.forall_mem_cons.mpr ⟨lq_1 (List.mem_of_getElem? (i := 33) rfl), List.forall_mem_cons.mpr ⟨lq_1 (List.mem_of_getElem? (i := 3) rfl), List.forall_mem_cons.mpr ⟨lq_1 (List.mem_of_getElem? (i := 78) rfl), List.forall_mem_cons.mpr ⟨lq_1 (List.mem_of_getElem? (i := 54) rfl), List.forall_mem_cons.mpr ⟨lq_1 (List.mem_of_getElem? (i := 55) rfl), List.forall_mem_cons.mpr ⟨lq_1 (List.mem_of_getElem? (i := 4) rfl), fun _ h => absurd h List.not_mem_nil⟩⟩⟩⟩⟩⟩⟩⟩⟩⟩⟩⟩⟩⟩⟩⟩⟩⟩⟩⟩⟩⟩⟩⟩
set_option maxRecDepth 20000 in
theorem wl_r2 : ∀ w ∈ wsL_law_r2, w ∈ lw_tbl := List.forall_mem_cons.mpr ⟨lq_1 (List.mem_of_getElem? (i := 79) rfl), List.forall_mem_cons.mpr ⟨lq_1 (List.mem_of_getElem? (i := 80) rfl), List.forall_mem_cons.mpr ⟨lq_1 (List.mem_of_getElem? (i := 111) rfl), List.forall_mem_cons.mpr ⟨lq_1 (List.mem_of_getElem? (i := 81) rfl), List.forall_mem_cons.mpr ⟨lq_1 (List.mem_of_getElem? (i := 82) rfl), List.forall_mem_cons.mpr ⟨lq_1 (List.mem_of_getElem? (i := 76) rfl), List.forall_mem_cons.mpr ⟨lq_1 (List.mem_of_getElem? (i := 83) rfl), List.forall_mem_cons.mpr ⟨lq_1 (List.mem_of_getElem? (i := 84) rfl), List.forall_mem_cons.mpr ⟨lq_1 (List.mem_of_getElem? (i := 85) rfl), List.forall_mem_cons.mpr ⟨lq_1 (List.mem_of_getElem? (i := 86) rfl), List.forall_mem_cons.mpr ⟨lq_1 (List.mem_of_getElem? (i := 87) rfl), List.forall_mem_cons.mpr ⟨lq_1 (List.mem_of_getElem? (i := 21) rfl), List.forall_mem_cons.mpr ⟨lq_1 (List.mem_of_getElem? (i := 22) rfl), List.forall_mem_cons.mpr ⟨lq_1 (List.mem_of_getElem? (i := 23) rfl), List.forall_mem_cons.mpr ⟨lq_1 (List.mem_of_getElem? (i := 31) rfl), List.forall_mem_cons.mpr ⟨lq_1 (List.mem_of_getElem? (i := 24) rfl), List.forall_mem_cons.mpr ⟨lq_1 (List.mem_of_getElem? (i := 25) rfl), List.forall_mem_cons.mpr ⟨lq_1 (List.mem_of_getElem? (i := 35) rfl), List.forall_mem_cons.mpr ⟨lq_1 (List.mem_of_getElem? (i := 36) rfl), List.forall_mem_cons.mpr ⟨lq_1 (List.mem_of_getElem? (i := 37) rfl), List.forall_mem_cons.mpr ⟨lq_1 (List.mem_of_getElem? (i := 38) rfl), List.forall_mem_cons.mpr ⟨lq_1 (List.mem_of_getElem? (i := 39) rfl), List.forall_mem_cons.mpr ⟨lq_1 (List.mem_of_getElem? (i := 40) rfl), List.forall_mem_cons.mpr ⟨lq_1 (List.mem_of_getElem? (i := 41) rfl), fun _ h => absurd h List.not_mem_nil⟩⟩⟩⟩⟩⟩⟩⟩⟩⟩⟩⟩⟩⟩⟩⟩⟩⟩⟩⟩⟩⟩⟩⟩
set_option maxRecDepth 20000 in
theorem wl_r3 : ∀ w ∈ wsL_law_r3, w ∈ lw_tbl := List.forall_mem_cons.mpr ⟨lq_1 (List.mem_of_getElem? (i := 42) rfl), List.forall_mem_cons.mpr ⟨lq_1 (List.mem_of_getElem? (i := 56) rfl), List.forall_mem_cons.mpr ⟨lq_1 (List.mem_of_getElem? (i := 57) rfl), List.forall_mem_cons.mpr ⟨lq_1 (List.mem_of_getElem? (i := 58) rfl), List.forall_mem_cons.mpr ⟨lq_1 (List.mem_of_getElem? (i := 59) rfl), List.forall_mem_cons.mpr ⟨lq_1 (List.mem_of_getElem? (i := 61) rfl), List.forall_mem_cons.mpr ⟨lq_1 (List.mem_of_getElem? (i := 62) rfl), List.forall_mem_cons.mpr ⟨lq_1 (List.mem_of_getElem? (i := 63) rfl), List.forall_mem_cons.mpr ⟨lq_1 (List.mem_of_getElem? (i := 64) rfl), List.forall_mem_cons.mpr ⟨lq_1 (List.mem_of_getElem? (i := 60) rfl), List.forall_mem_cons.mpr ⟨lq_3 (List.mem_of_getElem? (i := 7) rfl), List.forall_mem_cons.mpr ⟨lq_3 (List.mem_of_getElem? (i := 8) rfl), List.forall_mem_cons.mpr ⟨lq_3 (List.mem_of_getElem? (i := 9) rfl), List.forall_mem_cons.mpr ⟨lq_3 (List.mem_of_getElem? (i := 10) rfl), List.forall_mem_cons.mpr ⟨lq_3 (List.mem_of_getElem? (i := 12) rfl), List.forall_mem_cons.mpr ⟨lq_3 (List.mem_of_getElem? (i := 16) rfl), List.forall_mem_cons.mpr ⟨lq_3 (List.mem_of_getElem? (i := 17) rfl), List.forall_mem_cons.mpr ⟨lq_3 (List.mem_of_getElem? (i := 18) rfl), List.forall_mem_cons.mpr ⟨lq_3 (List.mem_of_getElem? (i := 19) rfl), List.forall_mem_cons.mpr ⟨lq_3 (List.mem_of_getElem? (i := 23) rfl), List.forall_mem_cons.mpr ⟨lq_3 (List.mem_of_getElem? (i := 24) rfl), List.forall_mem_cons.mpr ⟨lq_3 (List.mem_of_getElem? (i := 25) rfl), List.forall_mem_cons.mpr ⟨lq_3 (List.mem_of_getElem? (i := 26) rfl), List.forall_mem_cons.mpr ⟨lq_3 (List.mem_of_getElem? (i := 27) rfl), fun _ h => absurd h List.not_mem_nil⟩⟩⟩⟩⟩⟩⟩⟩⟩⟩⟩⟩⟩⟩⟩⟩⟩⟩⟩⟩⟩⟩⟩⟩
set_option maxRecDepth 20000 in
theorem wl_r4 : ∀ w ∈ wsL_law_r4, w ∈ lw_tbl := List.forall_mem_cons.mpr ⟨lq_3 (List.mem_of_getElem? (i := 29) rfl), List.forall_mem_cons.mpr ⟨lq_3 (List.mem_of_getElem? (i := 96) rfl), List.forall_mem_cons.mpr ⟨lq_3 (List.mem_of_getElem? (i := 30) rfl), List.forall_mem_cons.mpr ⟨lq_3 (List.mem_of_getElem? (i := 32) rfl), List.forall_mem_cons.mpr ⟨lq_3 (List.mem_of_getElem? (i := 33) rfl), List.forall_mem_cons.mpr ⟨lq_3 (List.mem_of_getElem? (i := 37) rfl), List.forall_mem_cons.mpr ⟨lq_1 (List.mem_of_getElem? (i := 112) rfl), List.forall_mem_cons.mpr ⟨lq_1 (List.mem_of_getElem? (i := 113) rfl), List.forall_mem_cons.mpr ⟨lq_1 (List.mem_of_getElem? (i := 114) rfl), List.forall_mem_cons.mpr ⟨lq_1 (List.mem_of_getElem? (i := 115) rfl), List.forall_mem_cons.mpr ⟨lq_1 (List.mem_of_getElem? (i := 116) rfl), List.forall_mem_cons.mpr ⟨lq_1 (List.mem_of_getElem? (i := 117) rfl), List.forall_mem_cons.mpr ⟨lq_1 (List.mem_of_getElem? (i := 118) rfl), List.forall_mem_cons.mpr ⟨lq_1 (List.mem_of_getElem? (i := 119) rfl), List.forall_mem_cons.mpr ⟨lq_1 (List.mem_of_getElem? (i := 120) rfl), List.forall_mem_cons.mpr ⟨lq_1 (List.mem_of_getElem? (i := 121) rfl), List.forall_mem_cons.mpr ⟨lq_1 (List.mem_of_getElem? (i := 122) rfl), List.forall_mem_cons.mpr ⟨lq_1 (List.mem_of_getElem? (i := 123) rfl), List.forall_mem_cons.mpr ⟨lq_1 (List.mem_of_getElem? (i := 124) rfl), List.forall_mem_cons.mpr ⟨lq_1 (List.mem_of_getElem? (i := 125) rfl), List.forall_mem_cons.mpr ⟨lq_1 (List.mem_of_getElem? (i := 126) rfl), List.forall_mem_cons.mpr ⟨lq_3 (List.mem_of_getElem? (i := 97) rfl), List.forall_mem_cons.mpr ⟨lq_3 (List.mem_of_getElem? (i := 98) rfl), List.forall_mem_cons.mpr ⟨lq_3 (List.mem_of_getElem? (i := 99) rfl), fun _ h => absurd h List.not_mem_nil⟩⟩⟩⟩⟩⟩⟩⟩⟩⟩⟩⟩⟩⟩⟩⟩⟩⟩⟩⟩⟩⟩⟩⟩
set_option maxRecDepth 20000 in
theorem wl_r5 : ∀ w ∈ wsL_law_r5, w ∈ lw_tbl := List.forall_mem_cons.mpr ⟨lq_3 (List.mem_of_getElem? (i := 100) rfl), List.forall_mem_cons.mpr ⟨lq_3 (List.mem_of_getElem? (i := 11) rfl), List.forall_mem_cons.mpr ⟨lq_3 (List.mem_of_getElem? (i := 101) rfl), List.forall_mem_cons.mpr ⟨lq_3 (List.mem_of_getElem? (i := 13) rfl), List.forall_mem_cons.mpr ⟨lq_3 (List.mem_of_getElem? (i := 102) rfl), List.forall_mem_cons.mpr ⟨lq_3 (List.mem_of_getElem? (i := 103) rfl), List.forall_mem_cons.mpr ⟨lq_3 (List.mem_of_getElem? (i := 104) rfl), List.forall_mem_cons.mpr ⟨lq_1 (List.mem_of_getElem? (i := 127) rfl), List.forall_mem_cons.mpr ⟨lq_1 (List.mem_of_getElem? (i := 128) rfl), List.forall_mem_cons.mpr ⟨lq_1 (List.mem_of_getElem? (i := 129) rfl), List.forall_mem_cons.mpr ⟨lq_1 (List.mem_of_getElem? (i := 130) rfl), List.forall_mem_cons.mpr ⟨lq_1 (List.mem_of_getElem? (i := 131) rfl), List.forall_mem_cons.mpr ⟨lq_1 (List.mem_of_getElem? (i := 132) rfl), List.forall_mem_cons.mpr ⟨lq_1 (List.mem_of_getElem? (i := 133) rfl), List.forall_mem_cons.mpr ⟨lq_1 (List.mem_of_getElem? (i := 134) rfl), List.forall_mem_cons.mpr ⟨lq_3 (List.mem_of_getElem? (i := 105) rfl), List.forall_mem_cons.mpr ⟨lq_3 (List.mem_of_getElem? (i := 106) rfl), List.forall_mem_cons.mpr ⟨lq_3 (List.mem_of_getElem? (i := 107) rfl), List.forall_mem_cons.mpr ⟨lq_3 (List.mem_of_getElem? (i := 108) rfl), List.forall_mem_cons.mpr ⟨lq_1 (List.mem_of_getElem? (i := 135) rfl), List.forall_mem_cons.mpr ⟨lq_1 (List.mem_of_getElem? (i := 136) rfl), List.forall_mem_cons.mpr ⟨lq_1 (List.mem_of_getElem? (i := 137) rfl), List.forall_mem_cons.mpr ⟨lq_1 (List.mem_of_getElem? (i := 138) rfl), List.forall_mem_cons.mpr ⟨lq_1 (List.mem_of_getElem? (i := 139) rfl), fun _ h => absurd h List.not_mem_nil⟩⟩⟩⟩⟩⟩⟩⟩⟩⟩⟩⟩⟩⟩⟩⟩⟩⟩⟩⟩⟩⟩⟩⟩
set_option maxRecDepth 20000 in
theorem wl_r6 : ∀ w ∈ wsL_law_r6, w ∈ lw_tbl := List.forall_mem_cons.mpr ⟨lq_1 (List.mem_of_getElem? (i := 140) rfl), List.forall_mem_cons.mpr ⟨lq_1 (List.mem_of_getElem? (i := 141) rfl), List.forall_mem_cons.mpr ⟨lq_1 (List.mem_of_getElem? (i := 142) rfl), List.forall_mem_cons.mpr ⟨lq_1 (List.mem_of_getElem? (i := 143) rfl), List.forall_mem_cons.mpr ⟨lq_1 (List.mem_of_getElem? (i := 145) rfl), List.forall_mem_cons.mpr ⟨lq_0 (List.mem_of_getElem? (i := 0) rfl), List.forall_mem_cons.mpr ⟨lq_1 (List.mem_of_getElem? (i := 146) rfl), List.forall_mem_cons.mpr ⟨lq_1 (List.mem_of_getElem? (i := 147) rfl), List.forall_mem_cons.mpr ⟨lq_1 (List.mem_of_getElem? (i := 149) rfl), List.forall_mem_cons.mpr ⟨lq_0 (List.mem_of_getElem? (i := 1) rfl), List.forall_mem_cons.mpr ⟨lq_1 (List.mem_of_getElem? (i := 150) rfl), List.forall_mem_cons.mpr ⟨lq_1 (List.mem_of_getElem? (i := 151) rfl), List.forall_mem_cons.mpr ⟨lq_1 (List.mem_of_getElem? (i := 152) rfl), List.forall_mem_cons.mpr ⟨lq_1 (List.mem_of_getElem? (i := 153) rfl), List.forall_mem_cons.mpr ⟨lq_1 (List.mem_of_getElem? (i := 154) rfl), List.forall_mem_cons.mpr ⟨lq_1 (List.mem_of_getElem? (i := 156) rfl), List.forall_mem_cons.mpr ⟨lq_1 (List.mem_of_getElem? (i := 158) rfl), List.forall_mem_cons.mpr ⟨lq_0 (List.mem_of_getElem? (i := 2) rfl), List.forall_mem_cons.mpr ⟨lq_1 (List.mem_of_getElem? (i := 159) rfl), List.forall_mem_cons.mpr ⟨lq_3 (List.mem_of_getElem? (i := 109) rfl), List.forall_mem_cons.mpr ⟨lq_3 (List.mem_of_getElem? (i := 110) rfl), List.forall_mem_cons.mpr ⟨lq_3 (List.mem_of_getElem? (i := 111) rfl), List.forall_mem_cons.mpr ⟨lq_3 (List.mem_of_getElem? (i := 112) rfl), List.forall_mem_cons.mpr ⟨lq_3 (List.mem_of_getElem? (i := 113) rfl), fun _ h => absurd h List.not_mem_nil⟩⟩⟩⟩⟩⟩⟩⟩⟩⟩⟩⟩⟩⟩⟩⟩⟩⟩⟩⟩⟩⟩⟩⟩
set_option maxRecDepth 20000 in
theorem wl_r7 : ∀ w ∈ wsL_law_r7, w ∈ lw_tbl := List.forall_mem_cons.mpr ⟨lq_3 (List.mem_of_getElem? (i := 115) rfl), List.forall_mem_cons.mpr ⟨lq_0 (List.mem_of_getElem? (i := 10) rfl), List.forall_mem_cons.mpr ⟨lq_3 (List.mem_of_getElem? (i := 116) rfl), List.forall_mem_cons.mpr ⟨lq_3 (List.mem_of_getElem? (i := 14) rfl), List.forall_mem_cons.mpr ⟨lq_3 (List.mem_of_getElem? (i := 20) rfl), List.forall_mem_cons.mpr ⟨lq_3 (List.mem_of_getElem? (i := 21) rfl), List.forall_mem_cons.mpr ⟨lq_3 (List.mem_of_getElem? (i := 22) rfl), List.forall_mem_cons.mpr ⟨lq_3 (List.mem_of_getElem? (i := 117) rfl), List.forall_mem_cons.mpr ⟨lq_3 (List.mem_of_getElem? (i := 119) rfl), List.forall_mem_cons.mpr ⟨lq_0 (List.mem_of_getElem? (i := 11) rfl), List.forall_mem_cons.mpr ⟨lq_3 (List.mem_of_getElem? (i := 120) rfl), List.forall_mem_cons.mpr ⟨lq_1 (List.mem_of_getElem? (i := 160) rfl), List.forall_mem_cons.mpr ⟨lq_1 (List.mem_of_getElem? (i := 161) rfl), List.forall_mem_cons.mpr ⟨lq_1 (List.mem_of_getElem? (i := 162) rfl), List.forall_mem_cons.mpr ⟨lq_1 (List.mem_of_getElem? (i := 163) rfl), List.forall_mem_cons.mpr ⟨lq_1 (List.mem_of_getElem? (i := 164) rfl), List.forall_mem_cons.mpr ⟨lq_1 (List.mem_of_getElem? (i := 165) rfl), List.forall_mem_cons.mpr ⟨lq_1 (List.mem_of_getElem? (i := 166) rfl), List.forall_mem_cons.mpr ⟨lq_1 (List.mem_of_getElem? (i := 167) rfl), List.forall_mem_cons.mpr ⟨lq_1 (List.mem_of_getElem? (i := 168) rfl), List.forall_mem_cons.mpr ⟨lq_1 (List.mem_of_getElem? (i := 169) rfl), List.forall_mem_cons.mpr ⟨lq_1 (List.mem_of_getElem? (i := 170) rfl), List.forall_mem_cons.mpr ⟨lq_1 (List.mem_of_getElem? (i := 171) rfl), List.forall_mem_cons.mpr ⟨lq_1 (List.mem_of_getElem? (i := 172) rfl), fun _ h => absurd h List.not_mem_nil⟩⟩⟩⟩⟩⟩⟩⟩⟩⟩⟩⟩⟩⟩⟩⟩⟩⟩⟩⟩⟩⟩⟩⟩
set_option maxRecDepth 20000 in
theorem wl_r8 : ∀ w ∈ wsL_law_r8, w ∈ lw_tbl := List.forall_mem_cons.mpr ⟨lq_1 (List.mem_of_getElem? (i := 173) rfl), List.forall_mem_cons.mpr ⟨lq_1 (List.mem_of_getElem? (i := 174) rfl), List.forall_mem_cons.mpr ⟨lq_1 (List.mem_of_getElem? (i := 175) rfl), List.forall_mem_cons.mpr ⟨lq_1 (List.mem_of_getElem? (i := 176) rfl), List.forall_mem_cons.mpr ⟨lq_1 (List.mem_of_getElem? (i := 177) rfl), List.forall_mem_cons.mpr ⟨lq_1 (List.mem_of_getElem? (i := 178) rfl), List.forall_mem_cons.mpr ⟨lq_1 (List.mem_of_getElem? (i := 6) rfl), List.forall_mem_cons.mpr ⟨lq_1 (List.mem_of_getElem? (i := 179) rfl), List.forall_mem_cons.mpr ⟨lq_1 (List.mem_of_getElem? (i := 180) rfl), List.forall_mem_cons.mpr ⟨lq_1 (List.mem_of_getElem? (i := 181) rfl), List.forall_mem_cons.mpr ⟨lq_1 (List.mem_of_getElem? (i := 182) rfl), List.forall_mem_cons.mpr ⟨lq_1 (List.mem_of_getElem? (i := 183) rfl), List.forall_mem_cons.mpr ⟨lq_1 (List.mem_of_getElem? (i := 184) rfl), List.forall_mem_cons.mpr ⟨lq_1 (List.mem_of_getElem? (i := 185) rfl), List.forall_mem_cons.mpr ⟨lq_1 (List.mem_of_getElem? (i := 186) rfl), List.forall_mem_cons.mpr ⟨lq_1 (List.mem_of_getElem? (i := 187) rfl), List.forall_mem_cons.mpr ⟨lq_1 (List.mem_of_getElem? (i := 188) rfl), List.forall_mem_cons.mpr ⟨lq_1 (List.mem_of_getElem? (i := 189) rfl), List.forall_mem_cons.mpr ⟨lq_1 (List.mem_of_getElem? (i := 190) rfl), List.forall_mem_cons.mpr ⟨lq_1 (List.mem_of_getElem? (i := 191) rfl), List.forall_mem_cons.mpr ⟨lq_1 (List.mem_of_getElem? (i := 192) rfl), List.forall_mem_cons.mpr ⟨lq_1 (List.mem_of_getElem? (i := 193) rfl), List.forall_mem_cons.mpr ⟨lq_1 (List.mem_of_getElem? (i := 194) rfl), List.forall_mem_cons.mpr ⟨lq_1 (List.mem_of_getElem? (i := 195) rfl), fun _ h => absurd h List.not_mem_nil⟩⟩⟩⟩⟩⟩⟩⟩⟩⟩⟩⟩⟩⟩⟩⟩⟩⟩⟩⟩⟩⟩⟩⟩
set_option maxRecDepth 20000 in
theorem wl_r9 : ∀ w ∈ wsL_law_r9, w ∈ lw_tbl := List.forall_mem_cons.mpr ⟨lq_1 (List.mem_of_getElem? (i := 196) rfl), List.forall_mem_cons.mpr ⟨lq_1 (List.mem_of_getElem? (i := 197) rfl), List.forall_mem_cons.mpr ⟨lq_1 (List.mem_of_getElem? (i := 198) rfl), List.forall_mem_cons.mpr ⟨lq_1 (List.mem_of_getElem? (i := 199) rfl), List.forall_mem_cons.mpr ⟨lq_1 (List.mem_of_getElem? (i := 200) rfl), List.forall_mem_cons.mpr ⟨lq_1 (List.mem_of_getElem? (i := 202) rfl), List.forall_mem_cons.mpr ⟨lq_0 (List.mem_of_getElem? (i := 3) rfl), List.forall_mem_cons.mpr ⟨lq_1 (List.mem_of_getElem? (i := 203) rfl), List.forall_mem_cons.mpr ⟨lq_1 (List.mem_of_getElem? (i := 204) rfl), List.forall_mem_cons.mpr ⟨lq_1 (List.mem_of_getElem? (i := 205) rfl), List.forall_mem_cons.mpr ⟨lq_1 (List.mem_of_getElem? (i := 206) rfl), List.forall_mem_cons.mpr ⟨lq_1 (List.mem_of_getElem? (i := 207) rfl), List.forall_mem_cons.mpr ⟨lq_3 (List.mem_of_getElem? (i := 121) rfl), List.forall_mem_cons.mpr ⟨lq_3 (List.mem_of_getElem? (i := 122) rfl), List.forall_mem_cons.mpr ⟨lq_3 (List.mem_of_getElem? (i := 123) rfl), List.forall_mem_cons.mpr ⟨lq_3 (List.mem_of_getElem? (i := 124) rfl), List.forall_mem_cons.mpr ⟨lq_3 (List.mem_of_getElem? (i := 15) rfl), List.forall_mem_cons.mpr ⟨lq_3 (List.mem_of_getElem? (i := 28) rfl), List.forall_mem_cons.mpr ⟨lq_1 (List.mem_of_getElem? (i := 208) rfl), List.forall_mem_cons.mpr ⟨lq_1 (List.mem_of_getElem? (i := 209) rfl), List.forall_mem_cons.mpr ⟨lq_1 (List.mem_of_getElem? (i := 210) rfl), List.forall_mem_cons.mpr ⟨lq_1 (List.mem_of_getElem? (i := 211) rfl), List.forall_mem_cons.mpr ⟨lq_1 (List.mem_of_getElem? (i := 212) rfl), List.forall_mem_cons.mpr ⟨lq_1 (List.mem_of_getElem? (i := 213) rfl), fun _ h => absurd h List.not_mem_nil⟩⟩⟩⟩⟩⟩⟩⟩⟩⟩⟩⟩⟩⟩⟩⟩⟩⟩⟩⟩⟩⟩⟩⟩
set_option maxRecDepth 20000 in
theorem wl_r10 : ∀ w ∈ wsL_law_r10, w ∈ lw_tbl := List.forall_mem_cons.mpr ⟨lq_1 (List.mem_of_getElem? (i := 214) rfl), List.forall_mem_cons.mpr ⟨lq_1 (List.mem_of_getElem? (i := 215) rfl), List.forall_mem_cons.mpr ⟨lq_1 (List.mem_of_getElem? (i := 216) rfl), List.forall_mem_cons.mpr ⟨lq_1 (List.mem_of_getElem? (i := 217) rfl), List.forall_mem_cons.mpr ⟨lq_1 (List.mem_of_getElem? (i := 218) rfl), List.forall_mem_cons.mpr ⟨lq_1 (List.mem_of_getElem? (i := 219) rfl), List.forall_mem_cons.mpr ⟨lq_1 (List.mem_of_getElem? (i := 220) rfl), List.forall_mem_cons.mpr ⟨lq_1 (List.mem_of_getElem? (i := 221) rfl), List.forall_mem_cons.mpr ⟨lq_1 (List.mem_of_getElem? (i := 222) rfl), List.forall_mem_cons.mpr ⟨lq_1 (List.mem_of_getElem? (i := 223) rfl), List.forall_mem_cons.mpr ⟨lq_1 (List.mem_of_getElem? (i := 224) rfl), List.forall_mem_cons.mpr ⟨lq_1 (List.mem_of_getElem? (i := 225) rfl), List.forall_mem_cons.mpr ⟨lq_1 (List.mem_of_getElem? (i := 226) rfl), List.forall_mem_cons.mpr ⟨lq_1 (List.mem_of_getElem? (i := 227) rfl), List.forall_mem_cons.mpr ⟨lq_1 (List.mem_of_getElem? (i := 228) rfl), List.forall_mem_cons.mpr ⟨lq_1 (List.mem_of_getElem? (i := 229) rfl), List.forall_mem_cons.mpr ⟨lq_1 (List.mem_of_getElem? (i := 230) rfl), List.forall_mem_cons.mpr ⟨lq_1 (List.mem_of_getElem? (i := 231) rfl), List.forall_mem_cons.mpr ⟨lq_1 (List.mem_of_getElem? (i := 232) rfl), List.forall_mem_cons.mpr ⟨lq_1 (List.mem_of_getElem? (i := 233) rfl), List.forall_mem_cons.mpr ⟨lq_1 (List.mem_of_getElem? (i := 234) rfl), List.forall_mem_cons.mpr ⟨lq_1 (List.mem_of_getElem? (i := 235) rfl), List.forall_mem_cons.mpr ⟨lq_1 (List.mem_of_getElem? (i := 236) rfl), List.forall_mem_cons.mpr ⟨lq_1 (List.mem_of_getElem? (i := 237) rfl), fun _ h => absurd h List.not_mem_nil⟩⟩⟩⟩⟩⟩⟩⟩⟩⟩⟩⟩⟩⟩⟩⟩⟩⟩⟩⟩⟩⟩⟩⟩
set_option maxRecDepth 20000 in
theorem wl_r11 : ∀ w ∈ wsL_law_r11, w ∈ lw_tbl := List.forall_mem_cons.mpr ⟨lq_1 (List.mem_of_getElem? (i := 238) rfl), List.forall_mem_cons.mpr ⟨lq_1 (List.mem_of_getElem? (i := 239) rfl), List.forall_mem_cons.mpr ⟨lq_2 (List.mem_of_getElem? (i := 0) rfl), List.forall_mem_cons.mpr ⟨lq_2 (List.mem_of_getElem? (i := 1) rfl), List.forall_mem_cons.mpr ⟨lq_2 (List.mem_of_getElem? (i := 2) rfl), List.forall_mem_cons.mpr ⟨lq_2 (List.mem_of_getElem? (i := 3) rfl), List.forall_mem_cons.mpr ⟨lq_2 (List.mem_of_getElem? (i := 4) rfl), List.forall_mem_cons.mpr ⟨lq_2 (List.mem_of_getElem? (i := 5) rfl), List.forall_mem_cons.mpr ⟨lq_2 (List.mem_of_getElem? (i := 6) rfl), List.forall_mem_cons.mpr ⟨lq_2 (List.mem_of_getElem? (i := 7) rfl), List.forall_mem_cons.mpr ⟨lq_2 (List.mem_of_getElem? (i := 8) rfl), List.forall_mem_cons.mpr ⟨lq_2 (List.mem_of_getElem? (i := 9) rfl), List.forall_mem_cons.mpr ⟨lq_3 (List.mem_of_getElem? (i := 125) rfl), List.forall_mem_cons.mpr ⟨lq_3 (List.mem_of_getElem? (i := 126) rfl), List.forall_mem_cons.mpr ⟨lq_3 (List.mem_of_getElem? (i := 127) rfl), List.forall_mem_cons.mpr ⟨lq_3 (List.mem_of_getElem? (i := 128) rfl), List.forall_mem_cons.mpr ⟨lq_3 (List.mem_of_getElem? (i := 31) rfl), List.forall_mem_cons.mpr ⟨lq_3 (List.mem_of_getElem? (i := 129) rfl), List.forall_mem_cons.mpr ⟨lq_3 (List.mem_of_getElem? (i := 130) rfl), List.forall_mem_cons.mpr ⟨lq_3 (List.mem_of_getElem? (i := 131) rfl), List.forall_mem_cons.mpr ⟨lq_3 (List.mem_of_getElem? (i := 132) rfl), List.forall_mem_cons.mpr ⟨lq_3 (List.mem_of_getElem? (i := 133) rfl), List.forall_mem_cons.mpr ⟨lq_3 (List.mem_of_getElem? (i := 134) rfl), List.forall_mem_cons.mpr ⟨lq_2 (List.mem_of_getElem? (i := 10) rfl), fun _ h => absurd h List.not_mem_nil⟩⟩⟩⟩⟩⟩⟩⟩⟩⟩⟩⟩⟩⟩⟩⟩⟩⟩⟩⟩⟩⟩⟩⟩
set_option maxRecDepth 20000 in
theorem wl_r12 : ∀ w ∈ wsL_law_r12, w ∈ lw_tbl := List.forall_mem_cons.mpr ⟨lq_2 (List.mem_of_getElem? (i := 11) rfl), List.forall_mem_cons.mpr ⟨lq_2 (List.mem_of_getElem? (i := 12) rfl), List.forall_mem_cons.mpr ⟨lq_2 (List.mem_of_getElem? (i := 13) rfl), List.forall_mem_cons.mpr ⟨lq_2 (List.mem_of_getElem? (i := 14) rfl), List.forall_mem_cons.mpr ⟨lq_2 (List.mem_of_getElem? (i := 15) rfl), List.forall_mem_cons.mpr ⟨lq_2 (List.mem_of_getElem? (i := 16) rfl), List.forall_mem_cons.mpr ⟨lq_2 (List.mem_of_getElem? (i := 17) rfl), List.forall_mem_cons.mpr ⟨lq_2 (List.mem_of_getElem? (i := 19) rfl), List.forall_mem_cons.mpr ⟨lq_2 (List.mem_of_getElem? (i := 20) rfl), List.forall_mem_cons.mpr ⟨lq_2 (List.mem_of_getElem? (i := 21) rfl), List.forall_mem_cons.mpr ⟨lq_2 (List.mem_of_getElem? (i := 22) rfl), List.forall_mem_cons.mpr ⟨lq_2 (List.mem_of_getElem? (i := 23) rfl), List.forall_mem_cons.mpr ⟨lq_2 (List.mem_of_getElem? (i := 24) rfl), List.forall_mem_cons.mpr ⟨lq_2 (List.mem_of_getElem? (i := 25) rfl), List.forall_mem_cons.mpr ⟨lq_2 (List.mem_of_getElem? (i := 26) rfl), List.forall_mem_cons.mpr ⟨lq_2 (List.mem_of_getElem? (i := 27) rfl), List.forall_mem_cons.mpr ⟨lq_2 (List.mem_of_getElem? (i := 28) rfl), List.forall_mem_cons.mpr ⟨lq_2 (List.mem_of_getElem? (i := 29) rfl), List.forall_mem_cons.mpr ⟨lq_2 (List.mem_of_getElem? (i := 30) rfl), List.forall_mem_cons.mpr ⟨lq_2 (List.mem_of_getElem? (i := 31) rfl), List.forall_mem_cons.mpr ⟨lq_2 (List.mem_of_getElem? (i := 32) rfl), List.forall_mem_cons.mpr ⟨lq_2 (List.mem_of_getElem? (i := 33) rfl), List.forall_mem_cons.mpr ⟨lq_2 (List.mem_of_getElem? (i := 34) rfl), List.forall_mem_cons.mpr ⟨lq_2 (List.mem_of_getElem? (i := 35) rfl), fun _ h => absurd h List.not_mem_nil⟩⟩⟩⟩⟩⟩⟩⟩⟩⟩⟩⟩⟩⟩⟩⟩⟩⟩⟩⟩⟩⟩⟩⟩
set_option maxRecDepth 20000 in
theorem wl_r13 : ∀ w ∈ wsL_law_r13, w ∈ lw_tbl := List.forall_mem_cons.mpr ⟨lq_2 (List.mem_of_getElem? (i := 36) rfl), List.forall_mem_cons.mpr ⟨lq_2 (List.mem_of_getElem? (i := 37) rfl), List.forall_mem_cons.mpr ⟨lq_2 (List.mem_of_getElem? (i := 38) rfl), List.forall_mem_cons.mpr ⟨lq_2 (List.mem_of_getElem? (i := 39) rfl), List.forall_mem_cons.mpr ⟨lq_2 (List.mem_of_getElem? (i := 40) rfl), List.forall_mem_cons.mpr ⟨lq_2 (List.mem_of_getElem? (i := 41) rfl), List.forall_mem_cons.mpr ⟨lq_2 (List.mem_of_getElem? (i := 42) rfl), List.forall_mem_cons.mpr ⟨lq_2 (List.mem_of_getElem? (i := 44) rfl), List.forall_mem_cons.mpr ⟨lq_0 (List.mem_of_getElem? (i := 4) rfl), List.forall_mem_cons.mpr ⟨lq_2 (List.mem_of_getElem? (i := 45) rfl), List.forall_mem_cons.mpr ⟨lq_2 (List.mem_of_getElem? (i := 46) rfl), List.forall_mem_cons.mpr ⟨lq_2 (List.mem_of_getElem? (i := 47) rfl), List.forall_mem_cons.mpr ⟨lq_2 (List.mem_of_getElem? (i := 48) rfl), List.forall_mem_cons.mpr ⟨lq_2 (List.mem_of_getElem? (i := 49) rfl), List.forall_mem_cons.mpr ⟨lq_2 (List.mem_of_getElem? (i := 50) rfl), List.forall_mem_cons.mpr ⟨lq_3 (List.mem_of_getElem? (i := 135) rfl), List.forall_mem_cons.mpr ⟨lq_3 (List.mem_of_getElem? (i := 136) rfl), List.forall_mem_cons.mpr ⟨lq_3 (List.mem_of_getElem? (i := 137) rfl), List.forall_mem_cons.mpr ⟨lq_3 (List.mem_of_getElem? (i := 138) rfl), List.forall_mem_cons.mpr ⟨lq_3 (List.mem_of_getElem? (i := 139) rfl), List.forall_mem_cons.mpr ⟨lq_3 (List.mem_of_getElem? (i := 141) rfl), List.forall_mem_cons.mpr ⟨lq_0 (List.mem_of_getElem? (i := 12) rfl), List.forall_mem_cons.mpr ⟨lq_3 (List.mem_of_getElem? (i := 142) rfl), List.forall_mem_cons.mpr ⟨lq_3 (List.mem_of_getElem? (i := 143) rfl), fun _ h => absurd h List.not_mem_nil⟩⟩⟩⟩⟩⟩⟩⟩⟩⟩⟩⟩⟩⟩⟩⟩⟩⟩⟩⟩⟩⟩⟩⟩
set_option maxRecDepth 20000 in
theorem wl_r14 : ∀ w ∈ wsL_law_r14, w ∈ lw_tbl := List.forall_mem_cons.mpr ⟨lq_3 (List.mem_of_getElem? (i := 144) rfl), List.forall_mem_cons.mpr ⟨lq_3 (List.mem_of_getElem? (i := 145) rfl), List.forall_mem_cons.mpr ⟨lq_2 (List.mem_of_getElem? (i := 51) rfl), List.forall_mem_cons.mpr ⟨lq_2 (List.mem_of_getElem? (i := 52) rfl), List.forall_mem_cons.mpr ⟨lq_2 (List.mem_of_getElem? (i := 53) rfl), List.forall_mem_cons.mpr ⟨lq_2 (List.mem_of_getElem? (i := 54) rfl), List.forall_mem_cons.mpr ⟨lq_2 (List.mem_of_getElem? (i := 55) rfl), List.forall_mem_cons.mpr ⟨lq_2 (List.mem_of_getElem? (i := 57) rfl), List.forall_mem_cons.mpr ⟨lq_0 (List.mem_of_getElem? (i := 5) rfl), List.forall_mem_cons.mpr ⟨lq_2 (List.mem_of_getElem? (i := 58) rfl), List.forall_mem_cons.mpr ⟨lq_2 (List.mem_of_getElem? (i := 59) rfl), List.forall_mem_cons.mpr ⟨lq_2 (List.mem_of_getElem? (i := 61) rfl), List.forall_mem_cons.mpr ⟨lq_2 (List.mem_of_getElem? (i := 60) rfl), List.forall_mem_cons.mpr ⟨lq_1 (List.mem_of_getElem? (i := 7) rfl), List.forall_mem_cons.mpr ⟨lq_2 (List.mem_of_getElem? (i := 62) rfl), List.forall_mem_cons.mpr ⟨lq_2 (List.mem_of_getElem? (i := 63) rfl), List.forall_mem_cons.mpr ⟨lq_2 (List.mem_of_getElem? (i := 64) rfl), List.forall_mem_cons.mpr ⟨lq_2 (List.mem_of_getElem? (i := 65) rfl), List.forall_mem_cons.mpr ⟨lq_2 (List.mem_of_getElem? (i := 66) rfl), List.forall_mem_cons.mpr ⟨lq_2 (List.mem_of_getElem? (i := 67) rfl), List.forall_mem_cons.mpr ⟨lq_2 (List.mem_of_getElem? (i := 68) rfl), List.forall_mem_cons.mpr ⟨lq_2 (List.mem_of_getElem? (i := 69) rfl), List.forall_mem_cons.mpr ⟨lq_2 (List.mem_of_getElem? (i := 70) rfl), List.forall_mem_cons.mpr ⟨lq_2 (List.mem_of_getElem? (i := 71) rfl), fun _ h => absurd h List.not_mem_nil⟩⟩⟩⟩⟩⟩⟩⟩⟩⟩⟩⟩⟩⟩⟩⟩⟩⟩⟩⟩⟩⟩⟩⟩
set_option maxRecDepth 20000 in
theorem wl_r15 : ∀ w ∈ wsL_law_r15, w ∈ lw_tbl := List.forall_mem_cons.mpr ⟨lq_2 (List.mem_of_getElem? (i := 73) rfl), List.forall_mem_cons.mpr ⟨lq_0 (List.mem_of_getElem? (i := 6) rfl), List.forall_mem_cons.mpr ⟨lq_2 (List.mem_of_getElem? (i := 74) rfl), List.forall_mem_cons.mpr ⟨lq_2 (List.mem_of_getElem? (i := 75) rfl), List.forall_mem_cons.mpr ⟨lq_2 (List.mem_of_getElem? (i := 76) rfl), List.forall_mem_cons.mpr ⟨lq_2 (List.mem_of_getElem? (i := 77) rfl), List.forall_mem_cons.mpr ⟨lq_2 (List.mem_of_getElem? (i := 79) rfl), List.forall_mem_cons.mpr ⟨lq_0 (List.mem_of_getElem? (i := 7) rfl), List.forall_mem_cons.mpr ⟨lq_2 (List.mem_of_getElem? (i := 80) rfl), List.forall_mem_cons.mpr ⟨lq_2 (List.mem_of_getElem? (i := 81) rfl), List.forall_mem_cons.mpr ⟨lq_2 (List.mem_of_getElem? (i := 82) rfl), List.forall_mem_cons.mpr ⟨lq_2 (List.mem_of_getElem? (i := 84) rfl), List.forall_mem_cons.mpr ⟨lq_0 (List.mem_of_getElem? (i := 8) rfl), List.forall_mem_cons.mpr ⟨lq_2 (List.mem_of_getElem? (i := 85) rfl), List.forall_mem_cons.mpr ⟨lq_2 (List.mem_of_getElem? (i := 86) rfl), List.forall_mem_cons.mpr ⟨lq_2 (List.mem_of_getElem? (i := 87) rfl), List.forall_mem_cons.mpr ⟨lq_2 (List.mem_of_getElem? (i := 88) rfl), List.forall_mem_cons.mpr ⟨lq_2 (List.mem_of_getElem? (i := 89) rfl), List.forall_mem_cons.mpr ⟨lq_3 (List.mem_of_getElem? (i := 146) rfl), List.forall_mem_cons.mpr ⟨lq_3 (List.mem_of_getElem? (i := 147) rfl), List.forall_mem_cons.mpr ⟨lq_3 (List.mem_of_getElem? (i := 148) rfl), List.forall_mem_cons.mpr ⟨lq_3 (List.mem_of_getElem? (i := 149) rfl), List.forall_mem_cons.mpr ⟨lq_3 (List.mem_of_getElem? (i := 150) rfl), List.forall_mem_cons.mpr ⟨lq_3 (List.mem_of_getElem? (i := 152) rfl), fun _ h => absurd h List.not_mem_nil⟩⟩⟩⟩⟩⟩⟩⟩⟩⟩⟩⟩⟩⟩⟩⟩⟩⟩⟩⟩⟩⟩⟩⟩
set_option maxRecDepth 20000 in
theorem wl_r16 : ∀ w ∈ wsL_law_r16, w ∈ lw_tbl := List.forall_mem_cons.mpr ⟨lq_0 (List.mem_of_getElem? (i := 13) rfl), List.forall_mem_cons.mpr ⟨lq_3 (List.mem_of_getElem? (i := 153) rfl), List.forall_mem_cons.mpr ⟨lq_3 (List.mem_of_getElem? (i := 154) rfl), List.forall_mem_cons.mpr ⟨lq_3 (List.mem_of_getElem? (i := 156) rfl), List.forall_mem_cons.mpr ⟨lq_0 (List.mem_of_getElem? (i := 14) rfl), List.forall_mem_cons.mpr ⟨lq_3 (List.mem_of_getElem? (i := 157) rfl), List.forall_mem_cons.mpr ⟨lq_3 (List.mem_of_getElem? (i := 38) rfl), List.forall_mem_cons.mpr ⟨lq_3 (List.mem_of_getElem? (i := 158) rfl), List.forall_mem_cons.mpr ⟨lq_3 (List.mem_of_getElem? (i := 160) rfl), List.forall_mem_cons.mpr ⟨lq_0 (List.mem_of_getElem? (i := 15) rfl), List.forall_mem_cons.mpr ⟨lq_3 (List.mem_of_getElem? (i := 161) rfl), List.forall_mem_cons.mpr ⟨lq_3 (List.mem_of_getElem? (i := 162) rfl), List.forall_mem_cons.mpr ⟨lq_3 (List.mem_of_getElem? (i := 163) rfl), List.forall_mem_cons.mpr ⟨lq_3 (List.mem_of_getElem? (i := 164) rfl), List.forall_mem_cons.mpr ⟨lq_2 (List.mem_of_getElem? (i := 90) rfl), List.forall_mem_cons.mpr ⟨lq_2 (List.mem_of_getElem? (i := 91) rfl), List.forall_mem_cons.mpr ⟨lq_2 (List.mem_of_getElem? (i := 92) rfl), List.forall_mem_cons.mpr ⟨lq_2 (List.mem_of_getElem? (i := 93) rfl), List.forall_mem_cons.mpr ⟨lq_2 (List.mem_of_getElem? (i := 94) rfl), List.forall_mem_cons.mpr ⟨lq_2 (List.mem_of_getElem? (i := 95) rfl), List.forall_mem_cons.mpr ⟨lq_2 (List.mem_of_getElem? (i := 96) rfl), List.forall_mem_cons.mpr ⟨lq_2 (List.mem_of_getElem? (i := 97) rfl), List.forall_mem_cons.mpr ⟨lq_2 (List.mem_of_getElem? (i := 98) rfl), List.forall_mem_cons.mpr ⟨lq_2 (List.mem_of_getElem? (i := 99) rfl), fun _ h => absurd h List.not_mem_nil⟩⟩⟩⟩⟩⟩⟩⟩⟩⟩⟩⟩⟩⟩⟩⟩⟩⟩⟩⟩⟩⟩⟩⟩
set_option maxRecDepth 20000 in
theorem wl_r17 : ∀ w ∈ wsL_law_r17, w ∈ lw_tbl := List.forall_mem_cons.mpr ⟨lq_2 (List.mem_of_getElem? (i := 100) rfl), List.forall_mem_cons.mpr ⟨lq_2 (List.mem_of_getElem? (i := 101) rfl), List.forall_mem_cons.mpr ⟨lq_3 (List.mem_of_getElem? (i := 165) rfl), List.forall_mem_cons.mpr ⟨lq_3 (List.mem_of_getElem? (i := 166) rfl), List.forall_mem_cons.mpr ⟨lq_3 (List.mem_of_getElem? (i := 167) rfl), List.forall_mem_cons.mpr ⟨lq_3 (List.mem_of_getElem? (i := 168) rfl), List.forall_mem_cons.mpr ⟨lq_3 (List.mem_of_getElem? (i := 169) rfl), List.forall_mem_cons.mpr ⟨lq_2 (List.mem_of_getElem? (i := 102) rfl), List.forall_mem_cons.mpr ⟨lq_2 (List.mem_of_getElem? (i := 103) rfl), List.forall_mem_cons.mpr ⟨lq_2 (List.mem_of_getElem? (i := 104) rfl), List.forall_mem_cons.mpr ⟨lq_2 (List.mem_of_getElem? (i := 105) rfl), List.forall_mem_cons.mpr ⟨lq_2 (List.mem_of_getElem? (i := 106) rfl), List.forall_mem_cons.mpr ⟨lq_2 (List.mem_of_getElem? (i := 107) rfl), List.forall_mem_cons.mpr ⟨lq_2 (List.mem_of_getElem? (i := 108) rfl), List.forall_mem_cons.mpr ⟨lq_2 (List.mem_of_getElem? (i := 109) rfl), List.forall_mem_cons.mpr ⟨lq_3 (List.mem_of_getElem? (i := 170) rfl), List.forall_mem_cons.mpr ⟨lq_3 (List.mem_of_getElem? (i := 171) rfl), List.forall_mem_cons.mpr ⟨lq_3 (List.mem_of_getElem? (i := 172) rfl), List.forall_mem_cons.mpr ⟨lq_3 (List.mem_of_getElem? (i := 173) rfl), List.forall_mem_cons.mpr ⟨lq_2 (List.mem_of_getElem? (i := 110) rfl), List.forall_mem_cons.mpr ⟨lq_2 (List.mem_of_getElem? (i := 111) rfl), List.forall_mem_cons.mpr ⟨lq_2 (List.mem_of_getElem? (i := 112) rfl), List.forall_mem_cons.mpr ⟨lq_2 (List.mem_of_getElem? (i := 113) rfl), List.forall_mem_cons.mpr ⟨lq_2 (List.mem_of_getElem? (i := 114) rfl), fun _ h => absurd h List.not_mem_nil⟩⟩⟩⟩⟩⟩⟩⟩⟩⟩⟩⟩⟩⟩⟩⟩⟩⟩⟩⟩⟩⟩⟩⟩
set_option maxRecDepth 20000 in
theorem wl_r18 : ∀ w ∈ wsL_law_r18, w ∈ lw_tbl := List.forall_mem_cons.mpr ⟨lq_2 (List.mem_of_getElem? (i := 115) rfl), List.forall_mem_cons.mpr ⟨lq_2 (List.mem_of_getElem? (i := 116) rfl), List.forall_mem_cons.mpr ⟨lq_2 (List.mem_of_getElem? (i := 117) rfl), List.forall_mem_cons.mpr ⟨lq_2 (List.mem_of_getElem? (i := 118) rfl), List.forall_mem_cons.mpr ⟨lq_3 (List.mem_of_getElem? (i := 174) rfl), List.forall_mem_cons.mpr ⟨lq_3 (List.mem_of_getElem? (i := 175) rfl), List.forall_mem_cons.mpr ⟨lq_3 (List.mem_of_getElem? (i := 176) rfl), List.forall_mem_cons.mpr ⟨lq_3 (List.mem_of_getElem? (i := 177) rfl), List.forall_mem_cons.mpr ⟨lq_2 (List.mem_of_getElem? (i := 119) rfl), List.forall_mem_cons.mpr ⟨lq_2 (List.mem_of_getElem? (i := 120) rfl), List.forall_mem_cons.mpr ⟨lq_2 (List.mem_of_getElem? (i := 121) rfl), List.forall_mem_cons.mpr ⟨lq_2 (List.mem_of_getElem? (i := 122) rfl), List.forall_mem_cons.mpr ⟨lq_2 (List.mem_of_getElem? (i := 123) rfl), List.forall_mem_cons.mpr ⟨lq_2 (List.mem_of_getElem? (i := 124) rfl), List.forall_mem_cons.mpr ⟨lq_2 (List.mem_of_getElem? (i := 125) rfl), List.forall_mem_cons.mpr ⟨lq_2 (List.mem_of_getElem? (i := 126) rfl), List.forall_mem_cons.mpr ⟨lq_2 (List.mem_of_getElem? (i := 127) rfl), List.forall_mem_cons.mpr ⟨lq_2 (List.mem_of_getElem? (i := 128) rfl), List.forall_mem_cons.mpr ⟨lq_2 (List.mem_of_getElem? (i := 129) rfl), List.forall_mem_cons.mpr ⟨lq_2 (List.mem_of_getElem? (i := 130) rfl), List.forall_mem_cons.mpr ⟨lq_2 (List.mem_of_getElem? (i := 131) rfl), List.forall_mem_cons.mpr ⟨lq_2 (List.mem_of_getElem? (i := 132) rfl), List.forall_mem_cons.mpr ⟨lq_2 (List.mem_of_getElem? (i := 133) rfl), List.forall_mem_cons.mpr ⟨lq_2 (List.mem_of_getElem? (i := 134) rfl), fun _ h => absurd h List.not_mem_nil⟩⟩⟩⟩⟩⟩⟩⟩⟩⟩⟩⟩⟩⟩⟩⟩⟩⟩⟩⟩⟩⟩⟩⟩
set_option maxRecDepth 20000 in
theorem wl_r19 : ∀ w ∈ wsL_law_r19, w ∈ lw_tbl := List.forall_mem_cons.mpr ⟨lq_2 (List.mem_of_getElem? (i := 135) rfl), List.forall_mem_cons.mpr ⟨lq_2 (List.mem_of_getElem? (i := 136) rfl), List.forall_mem_cons.mpr ⟨lq_2 (List.mem_of_getElem? (i := 137) rfl), List.forall_mem_cons.mpr ⟨lq_3 (List.mem_of_getElem? (i := 178) rfl), List.forall_mem_cons.mpr ⟨lq_3 (List.mem_of_getElem? (i := 179) rfl), List.forall_mem_cons.mpr ⟨lq_3 (List.mem_of_getElem? (i := 180) rfl), List.forall_mem_cons.mpr ⟨lq_3 (List.mem_of_getElem? (i := 181) rfl), List.forall_mem_cons.mpr ⟨lq_3 (List.mem_of_getElem? (i := 182) rfl), List.forall_mem_cons.mpr ⟨lq_3 (List.mem_of_getElem? (i := 183) rfl), List.forall_mem_cons.mpr ⟨lq_3 (List.mem_of_getElem? (i := 184) rfl), List.forall_mem_cons.mpr ⟨lq_3 (List.mem_of_getElem? (i := 185) rfl), List.forall_mem_cons.mpr ⟨lq_3 (List.mem_of_getElem? (i := 186) rfl), List.forall_mem_cons.mpr ⟨lq_3 (List.mem_of_getElem? (i := 187) rfl), List.forall_mem_cons.mpr ⟨lq_3 (List.mem_of_getElem? (i := 188) rfl), List.forall_mem_cons.mpr ⟨lq_3 (List.mem_of_getElem? (i := 189) rfl), List.forall_mem_cons.mpr ⟨lq_3 (List.mem_of_getElem? (i := 190) rfl), List.forall_mem_cons.mpr ⟨lq_3 (List.mem_of_getElem? (i := 191) rfl), List.forall_mem_cons.mpr ⟨lq_3 (List.mem_of_getElem? (i := 192) rfl), List.forall_mem_cons.mpr ⟨lq_3 (List.mem_of_getElem? (i := 193) rfl), List.forall_mem_cons.mpr ⟨lq_3 (List.mem_of_getElem? (i := 195) rfl), List.forall_mem_cons.mpr ⟨lq_0 (List.mem_of_getElem? (i := 16) rfl), List.forall_mem_cons.mpr ⟨lq_3 (List.mem_of_getElem? (i := 196) rfl), List.forall_mem_cons.mpr ⟨lq_3 (List.mem_of_getElem? (i := 197) rfl), List.forall_mem_cons.mpr ⟨lq_3 (List.mem_of_getElem? (i := 199) rfl), fun _ h => absurd h List.not_mem_nil⟩⟩⟩⟩⟩⟩⟩⟩⟩⟩⟩⟩⟩⟩⟩⟩⟩⟩⟩⟩⟩⟩⟩⟩
set_option maxRecDepth 20000 in
theorem wl_r20 : ∀ w ∈ wsL_law_r20, w ∈ lw_tbl := List.forall_mem_cons.mpr ⟨lq_0 (List.mem_of_getElem? (i := 17) rfl), List.forall_mem_cons.mpr ⟨lq_3 (List.mem_of_getElem? (i := 200) rfl), List.forall_mem_cons.mpr ⟨lq_2 (List.mem_of_getElem? (i := 138) rfl), List.forall_mem_cons.mpr ⟨lq_2 (List.mem_of_getElem? (i := 139) rfl), List.forall_mem_cons.mpr ⟨lq_2 (List.mem_of_getElem? (i := 140) rfl), List.forall_mem_cons.mpr ⟨lq_2 (List.mem_of_getElem? (i := 141) rfl), List.forall_mem_cons.mpr ⟨lq_3 (List.mem_of_getElem? (i := 201) rfl), List.forall_mem_cons.mpr ⟨lq_3 (List.mem_of_getElem? (i := 202) rfl), List.forall_mem_cons.mpr ⟨lq_3 (List.mem_of_getElem? (i := 203) rfl), List.forall_mem_cons.mpr ⟨lq_3 (List.mem_of_getElem? (i := 204) rfl), List.forall_mem_cons.mpr ⟨lq_2 (List.mem_of_getElem? (i := 142) rfl), List.forall_mem_cons.mpr ⟨lq_2 (List.mem_of_getElem? (i := 143) rfl), List.forall_mem_cons.mpr ⟨lq_2 (List.mem_of_getElem? (i := 144) rfl), List.forall_mem_cons.mpr ⟨lq_2 (List.mem_of_getElem? (i := 145) rfl), List.forall_mem_cons.mpr ⟨lq_2 (List.mem_of_getElem? (i := 146) rfl), List.forall_mem_cons.mpr ⟨lq_2 (List.mem_of_getElem? (i := 147) rfl), List.forall_mem_cons.mpr ⟨lq_2 (List.mem_of_getElem? (i := 149) rfl), List.forall_mem_cons.mpr ⟨lq_0 (List.mem_of_getElem? (i := 9) rfl), List.forall_mem_cons.mpr ⟨lq_2 (List.mem_of_getElem? (i := 150) rfl), List.forall_mem_cons.mpr ⟨lq_2 (List.mem_of_getElem? (i := 151) rfl), List.forall_mem_cons.mpr ⟨lq_2 (List.mem_of_getElem? (i := 152) rfl), List.forall_mem_cons.mpr ⟨lq_2 (List.mem_of_getElem? (i := 153) rfl), List.forall_mem_cons.mpr ⟨lq_2 (List.mem_of_getElem? (i := 154) rfl), List.forall_mem_cons.mpr ⟨lq_2 (List.mem_of_getElem? (i := 155) rfl), fun _ h => absurd h List.not_mem_nil⟩⟩⟩⟩⟩⟩⟩⟩⟩⟩⟩⟩⟩⟩⟩⟩⟩⟩⟩⟩⟩⟩⟩⟩
set_option maxRecDepth 20000 in
theorem wl_r21 : ∀ w ∈ wsL_law_r21, w ∈ lw_tbl := List.forall_mem_cons.mpr ⟨lq_3 (List.mem_of_getElem? (i := 205) rfl), List.forall_mem_cons.mpr ⟨lq_3 (List.mem_of_getElem? (i := 206) rfl), List.forall_mem_cons.mpr ⟨lq_3 (List.mem_of_getElem? (i := 207) rfl), List.forall_mem_cons.mpr ⟨lq_3 (List.mem_of_getElem? (i := 208) rfl), List.forall_mem_cons.mpr ⟨lq_3 (List.mem_of_getElem? (i := 35) rfl), List.forall_mem_cons.mpr ⟨lq_3 (List.mem_of_getElem? (i := 36) rfl), List.forall_mem_cons.mpr ⟨lq_3 (List.mem_of_getElem? (i := 209) rfl), List.forall_mem_cons.mpr ⟨lq_3 (List.mem_of_getElem? (i := 211) rfl), List.forall_mem_cons.mpr ⟨lq_0 (List.mem_of_getElem? (i := 18) rfl), List.forall_mem_cons.mpr ⟨lq_3 (List.mem_of_getElem? (i := 212) rfl), List.forall_mem_cons.mpr ⟨lq_3 (List.mem_of_getElem? (i := 213) rfl), List.forall_mem_cons.mpr ⟨lq_3 (List.mem_of_getElem? (i := 215) rfl), List.forall_mem_cons.mpr ⟨lq_0 (List.mem_of_getElem? (i := 19) rfl), List.forall_mem_cons.mpr ⟨lq_3 (List.mem_of_getElem? (i := 216) rfl), List.forall_mem_cons.mpr ⟨lq_2 (List.mem_of_getElem? (i := 156) rfl), List.forall_mem_cons.mpr ⟨lq_2 (List.mem_of_getElem? (i := 157) rfl), List.forall_mem_cons.mpr ⟨lq_2 (List.mem_of_getElem? (i := 158) rfl), List.forall_mem_cons.mpr ⟨lq_2 (List.mem_of_getElem? (i := 159) rfl), List.forall_mem_cons.mpr ⟨lq_2 (List.mem_of_getElem? (i := 160) rfl), List.forall_mem_cons.mpr ⟨lq_2 (List.mem_of_getElem? (i := 161) rfl), List.forall_mem_cons.mpr ⟨lq_2 (List.mem_of_getElem? (i := 162) rfl), List.forall_mem_cons.mpr ⟨lq_2 (List.mem_of_getElem? (i := 163) rfl), List.forall_mem_cons.mpr ⟨lq_2 (List.mem_of_getElem? (i := 164) rfl), List.forall_mem_cons.mpr ⟨lq_1 (List.mem_of_getElem? (i := 8) rfl), fun _ h => absurd h List.not_mem_nil⟩⟩⟩⟩⟩⟩⟩⟩⟩⟩⟩⟩⟩⟩⟩⟩⟩⟩⟩⟩⟩⟩⟩⟩
set_option maxRecDepth 20000 in
theorem wl_r22 : ∀ w ∈ wsL_law_r22, w ∈ lw_tbl := List.forall_mem_cons.mpr ⟨lq_2 (List.mem_of_getElem? (i := 165) rfl), List.forall_mem_cons.mpr ⟨lq_2 (List.mem_of_getElem? (i := 166) rfl), List.forall_mem_cons.mpr ⟨lq_2 (List.mem_of_getElem? (i := 167) rfl), List.forall_mem_cons.mpr ⟨lq_2 (List.mem_of_getElem? (i := 168) rfl), List.forall_mem_cons.mpr ⟨lq_2 (List.mem_of_getElem? (i := 169) rfl), List.forall_mem_cons.mpr ⟨lq_2 (List.mem_of_getElem? (i := 170) rfl), List.forall_mem_cons.mpr ⟨lq_1 (List.mem_of_getElem? (i := 9) rfl), List.forall_mem_cons.mpr ⟨lq_2 (List.mem_of_getElem? (i := 171) rfl), List.forall_mem_cons.mpr ⟨lq_2 (List.mem_of_getElem? (i := 172) rfl), List.forall_mem_cons.mpr ⟨lq_2 (List.mem_of_getElem? (i := 173) rfl), List.forall_mem_cons.mpr ⟨lq_2 (List.mem_of_getElem? (i := 174) rfl), List.forall_mem_cons.mpr ⟨lq_2 (List.mem_of_getElem? (i := 175) rfl), List.forall_mem_cons.mpr ⟨lq_2 (List.mem_of_getElem? (i := 176) rfl), List.forall_mem_cons.mpr ⟨lq_2 (List.mem_of_getElem? (i := 177) rfl), List.forall_mem_cons.mpr ⟨lq_2 (List.mem_of_getElem? (i := 178) rfl), List.forall_mem_cons.mpr ⟨lq_2 (List.mem_of_getElem? (i := 179) rfl), List.forall_mem_cons.mpr ⟨lq_2 (List.mem_of_getElem? (i := 180) rfl), List.forall_mem_cons.mpr ⟨lq_2 (List.mem_of_getElem? (i := 181) rfl), List.forall_mem_cons.mpr ⟨lq_3 (List.mem_of_getElem? (i := 217) rfl), List.forall_mem_cons.mpr ⟨lq_3 (List.mem_of_getElem? (i := 218) rfl), List.forall_mem_cons.mpr ⟨lq_3 (List.mem_of_getElem? (i := 219) rfl), List.forall_mem_cons.mpr ⟨lq_3 (List.mem_of_getElem? (i := 220) rfl), List.forall_mem_cons.mpr ⟨lq_3 (List.mem_of_getElem? (i := 221) rfl), List.forall_mem_cons.mpr ⟨lq_3 (List.mem_of_getElem? (i := 223) rfl), fun _ h => absurd h List.not_mem_nil⟩⟩⟩⟩⟩⟩⟩⟩⟩⟩⟩⟩⟩⟩⟩⟩⟩⟩⟩⟩⟩⟩⟩⟩
set_option maxRecDepth 20000 in
theorem wl_r23 : ∀ w ∈ wsL_law_r23, w ∈ lw_tbl := List.forall_mem_cons.mpr ⟨lq_0 (List.mem_of_getElem? (i := 20) rfl), List.forall_mem_cons.mpr ⟨lq_3 (List.mem_of_getElem? (i := 224) rfl), List.forall_mem_cons.mpr ⟨lq_3 (List.mem_of_getElem? (i := 225) rfl), List.forall_mem_cons.mpr ⟨lq_3 (List.mem_of_getElem? (i := 226) rfl), List.forall_mem_cons.mpr ⟨lq_3 (List.mem_of_getElem? (i := 227) rfl), List.forall_mem_cons.mpr ⟨lq_3 (List.mem_of_getElem? (i := 228) rfl), List.forall_mem_cons.mpr ⟨lq_3 (List.mem_of_getElem? (i := 229) rfl), List.forall_mem_cons.mpr ⟨lq_3 (List.mem_of_getElem? (i := 230) rfl), List.forall_mem_cons.mpr ⟨lq_3 (List.mem_of_getElem? (i := 231) rfl), List.forall_mem_cons.mpr ⟨lq_3 (List.mem_of_getElem? (i := 232) rfl), List.forall_mem_cons.mpr ⟨lq_3 (List.mem_of_getElem? (i := 233) rfl), List.forall_mem_cons.mpr ⟨lq_3 (List.mem_of_getElem? (i := 234) rfl), List.forall_mem_cons.mpr ⟨lq_3 (List.mem_of_getElem? (i := 235) rfl), List.forall_mem_cons.mpr ⟨lq_3 (List.mem_of_getElem? (i := 236) rfl), List.forall_mem_cons.mpr ⟨lq_2 (List.mem_of_getElem? (i := 182) rfl), List.forall_mem_cons.mpr ⟨lq_2 (List.mem_of_getElem? (i := 183) rfl), List.forall_mem_cons.mpr ⟨lq_2 (List.mem_of_getElem? (i := 184) rfl), List.forall_mem_cons.mpr ⟨lq_2 (List.mem_of_getElem? (i := 185) rfl), List.forall_mem_cons.mpr ⟨lq_2 (List.mem_of_getElem? (i := 186) rfl), List.forall_mem_cons.mpr ⟨lq_2 (List.mem_of_getElem? (i := 187) rfl), List.forall_mem_cons.mpr ⟨lq_2 (List.mem_of_getElem? (i := 188) rfl), List.forall_mem_cons.mpr ⟨lq_2 (List.mem_of_getElem? (i := 189) rfl), List.forall_mem_cons.mpr ⟨lq_3 (List.mem_of_getElem? (i := 237) rfl), List.forall_mem_cons.mpr ⟨lq_3 (List.mem_of_getElem? (i := 238) rfl), fun _ h => absurd h List.not_mem_nil⟩⟩⟩⟩⟩⟩⟩⟩⟩⟩⟩⟩⟩⟩⟩⟩⟩⟩⟩⟩⟩⟩⟩⟩
set_option maxRecDepth 20000 in
theorem wl_r24 : ∀ w ∈ wsL_law_r24, w ∈ lw_tbl := List.forall_mem_cons.mpr ⟨lq_3 (List.mem_of_getElem? (i := 239) rfl), List.forall_mem_cons.mpr ⟨lq_4 (List.mem_of_getElem? (i := 0) rfl), List.forall_mem_cons.mpr ⟨lq_2 (List.mem_of_getElem? (i := 190) rfl), List.forall_mem_cons.mpr ⟨lq_2 (List.mem_of_getElem? (i := 191) rfl), List.forall_mem_cons.mpr ⟨lq_2 (List.mem_of_getElem? (i := 192) rfl), List.forall_mem_cons.mpr ⟨lq_2 (List.mem_of_getElem? (i := 193) rfl), List.forall_mem_cons.mpr ⟨lq_2 (List.mem_of_getElem? (i := 197) rfl), List.forall_mem_cons.mpr ⟨lq_2 (List.mem_of_getElem? (i := 194) rfl), List.forall_mem_cons.mpr ⟨lq_2 (List.mem_of_getElem? (i := 195) rfl), List.forall_mem_cons.mpr ⟨lq_2 (List.mem_of_getElem? (i := 196) rfl), List.forall_mem_cons.mpr ⟨lq_4 (List.mem_of_getElem? (i := 1) rfl), List.forall_mem_cons.mpr ⟨lq_4 (List.mem_of_getElem? (i := 2) rfl), List.forall_mem_cons.mpr ⟨lq_4 (List.mem_of_getElem? (i := 3) rfl), List.forall_mem_cons.mpr ⟨lq_4 (List.mem_of_getElem? (i := 4) rfl), List.forall_mem_cons.mpr ⟨lq_4 (List.mem_of_getElem? (i := 5) rfl), List.forall_mem_cons.mpr ⟨lq_4 (List.mem_of_getElem? (i := 6) rfl), List.forall_mem_cons.mpr ⟨lq_4 (List.mem_of_getElem? (i := 7) rfl), List.forall_mem_cons.mpr ⟨lq_4 (List.mem_of_getElem? (i := 8) rfl), List.forall_mem_cons.mpr ⟨lq_4 (List.mem_of_getElem? (i := 9) rfl), List.forall_mem_cons.mpr ⟨lq_2 (List.mem_of_getElem? (i := 198) rfl), List.forall_mem_cons.mpr ⟨lq_2 (List.mem_of_getElem? (i := 199) rfl), List.forall_mem_cons.mpr ⟨lq_2 (List.mem_of_getElem? (i := 200) rfl), List.forall_mem_cons.mpr ⟨lq_2 (List.mem_of_getElem? (i := 201) rfl), List.forall_mem_cons.mpr ⟨lq_4 (List.mem_of_getElem? (i := 10) rfl), fun _ h => absurd h List.not_mem_nil⟩⟩⟩⟩⟩⟩⟩⟩⟩⟩⟩⟩⟩⟩⟩⟩⟩⟩⟩⟩⟩⟩⟩⟩
set_option maxRecDepth 20000 in
theorem wl_r25 : ∀ w ∈ wsL_law_r25, w ∈ lw_tbl := List.forall_mem_cons.mpr ⟨lq_4 (List.mem_of_getElem? (i := 11) rfl), List.forall_mem_cons.mpr ⟨lq_4 (List.mem_of_getElem? (i := 12) rfl), List.forall_mem_cons.mpr ⟨lq_4 (List.mem_of_getElem? (i := 13) rfl), List.forall_mem_cons.mpr ⟨lq_4 (List.mem_of_getElem? (i := 14) rfl), List.forall_mem_cons.mpr ⟨lq_2 (List.mem_of_getElem? (i := 202) rfl), List.forall_mem_cons.mpr ⟨lq_2 (List.mem_of_getElem? (i := 203) rfl), List.forall_mem_cons.mpr ⟨lq_2 (List.mem_of_getElem? (i := 204) rfl), List.forall_mem_cons.mpr ⟨lq_2 (List.mem_of_getElem? (i := 205) rfl), List.forall_mem_cons.mpr ⟨lq_4 (List.mem_of_getElem? (i := 15) rfl), List.forall_mem_cons.mpr ⟨lq_4 (List.mem_of_getElem? (i := 16) rfl), List.forall_mem_cons.mpr ⟨lq_4 (List.mem_of_getElem? (i := 17) rfl), List.forall_mem_cons.mpr ⟨lq_4 (List.mem_of_getElem? (i := 18) rfl), List.forall_mem_cons.mpr ⟨lq_4 (List.mem_of_getElem? (i := 19) rfl), List.forall_mem_cons.mpr ⟨lq_2 (List.mem_of_getElem? (i := 206) rfl), List.forall_mem_cons.mpr ⟨lq_2 (List.mem_of_getElem? (i := 207) rfl), List.forall_mem_cons.mpr ⟨lq_2 (List.mem_of_getElem? (i := 208) rfl), List.forall_mem_cons.mpr ⟨lq_2 (List.mem_of_getElem? (i := 209) rfl), List.forall_mem_cons.mpr ⟨lq_4 (List.mem_of_getElem? (i := 20) rfl), List.forall_mem_cons.mpr ⟨lq_4 (List.mem_of_getElem? (i := 21) rfl), List.forall_mem_cons.mpr ⟨lq_4 (List.mem_of_getElem? (i := 22) rfl), List.forall_mem_cons.mpr ⟨lq_4 (List.mem_of_getElem? (i := 23) rfl), List.forall_mem_cons.mpr ⟨lq_2 (List.mem_of_getElem? (i := 210) rfl), List.forall_mem_cons.mpr ⟨lq_2 (List.mem_of_getElem? (i := 211) rfl), List.forall_mem_cons.mpr ⟨lq_2 (List.mem_of_getElem? (i := 212) rfl), fun _ h => absurd h List.not_mem_nil⟩⟩⟩⟩⟩⟩⟩⟩⟩⟩⟩⟩⟩⟩⟩⟩⟩⟩⟩⟩⟩⟩⟩⟩
set_option maxRecDepth 20000 in
theorem wl_r26 : ∀ w ∈ wsL_law_r26, w ∈ lw_tbl := List.forall_mem_cons.mpr ⟨lq_2 (List.mem_of_getElem? (i := 213) rfl), List.forall_mem_cons.mpr ⟨lq_4 (List.mem_of_getElem? (i := 24) rfl), List.forall_mem_cons.mpr ⟨lq_4 (List.mem_of_getElem? (i := 25) rfl), List.forall_mem_cons.mpr ⟨lq_4 (List.mem_of_getElem? (i := 26) rfl), List.forall_mem_cons.mpr ⟨lq_4 (List.mem_of_getElem? (i := 27) rfl), List.forall_mem_cons.mpr ⟨lq_2 (List.mem_of_getElem? (i := 214) rfl), List.forall_mem_cons.mpr ⟨lq_2 (List.mem_of_getElem? (i := 215) rfl), List.forall_mem_cons.mpr ⟨lq_2 (List.mem_of_getElem? (i := 216) rfl), List.forall_mem_cons.mpr ⟨lq_2 (List.mem_of_getElem? (i := 217) rfl), List.forall_mem_cons.mpr ⟨lq_2 (List.mem_of_getElem? (i := 218) rfl), List.forall_mem_cons.mpr ⟨lq_2 (List.mem_of_getElem? (i := 219) rfl), List.forall_mem_cons.mpr ⟨lq_2 (List.mem_of_getElem? (i := 220) rfl), List.forall_mem_cons.mpr ⟨lq_2 (List.mem_of_getElem? (i := 221) rfl), List.forall_mem_cons.mpr ⟨lq_2 (List.mem_of_getElem? (i := 222) rfl), List.forall_mem_cons.mpr ⟨lq_2 (List.mem_of_getElem? (i := 223) rfl), List.forall_mem_cons.mpr ⟨lq_2 (List.mem_of_getElem? (i := 224) rfl), List.forall_mem_cons.mpr ⟨lq_2 (List.mem_of_getElem? (i := 225) rfl), List.forall_mem_cons.mpr ⟨lq_2 (List.mem_of_getElem? (i := 226) rfl), List.forall_mem_cons.mpr ⟨lq_4 (List.mem_of_getElem? (i := 28) rfl), List.forall_mem_cons.mpr ⟨lq_4 (List.mem_of_getElem? (i := 29) rfl), List.forall_mem_cons.mpr ⟨lq_4 (List.mem_of_getElem? (i := 30) rfl), List.forall_mem_cons.mpr ⟨lq_4 (List.mem_of_getElem? (i := 31) rfl), List.forall_mem_cons.mpr ⟨lq_4 (List.mem_of_getElem? (i := 32) rfl), List.forall_mem_cons.mpr ⟨lq_2 (List.mem_of_getElem? (i := 227) rfl), fun _ h => absurd h List.not_mem_nil⟩⟩⟩⟩⟩⟩⟩⟩⟩⟩⟩⟩⟩⟩⟩⟩⟩⟩⟩⟩⟩⟩⟩⟩
set_option maxRecDepth 20000 in
theorem wl_r27 : ∀ w ∈ wsL_law_r27, w ∈ lw_tbl := List.forall_mem_cons.mpr ⟨lq_2 (List.mem_of_getElem? (i := 228) rfl), List.forall_mem_cons.mpr ⟨lq_2 (List.mem_of_getElem? (i := 229) rfl), List.forall_mem_cons.mpr ⟨lq_2 (List.mem_of_getElem? (i := 230) rfl), List.forall_mem_cons.mpr ⟨lq_4 (List.mem_of_getElem? (i := 33) rfl), List.forall_mem_cons.mpr ⟨lq_4 (List.mem_of_getElem? (i := 34) rfl), List.forall_mem_cons.mpr ⟨lq_4 (List.mem_of_getElem? (i := 35) rfl), List.forall_mem_cons.mpr ⟨lq_4 (List.mem_of_getElem? (i := 36) rfl), List.forall_mem_cons.mpr ⟨lq_3 (List.mem_of_getElem? (i := 34) rfl), List.forall_mem_cons.mpr ⟨lq_2 (List.mem_of_getElem? (i := 231) rfl), List.forall_mem_cons.mpr ⟨lq_2 (List.mem_of_getElem? (i := 232) rfl), List.forall_mem_cons.mpr ⟨lq_2 (List.mem_of_getElem? (i := 233) rfl), List.forall_mem_cons.mpr ⟨lq_2 (List.mem_of_getElem? (i := 234) rfl), List.forall_mem_cons.mpr ⟨lq_2 (List.mem_of_getElem? (i := 235) rfl), List.forall_mem_cons.mpr ⟨lq_2 (List.mem_of_getElem? (i := 236) rfl), List.forall_mem_cons.mpr ⟨lq_4 (List.mem_of_getElem? (i := 37) rfl), List.forall_mem_cons.mpr ⟨lq_4 (List.mem_of_getElem? (i := 38) rfl), List.forall_mem_cons.mpr ⟨lq_4 (List.mem_of_getElem? (i := 39) rfl), List.forall_mem_cons.mpr ⟨lq_4 (List.mem_of_getElem? (i := 40) rfl), List.forall_mem_cons.mpr ⟨lq_4 (List.mem_of_getElem? (i := 41) rfl), List.forall_mem_cons.mpr ⟨lq_4 (List.mem_of_getElem? (i := 42) rfl), List.forall_mem_cons.mpr ⟨lq_4 (List.mem_of_getElem? (i := 43) rfl), List.forall_mem_cons.mpr ⟨lq_4 (List.mem_of_getElem? (i := 44) rfl), List.forall_mem_cons.mpr ⟨lq_2 (List.mem_of_getElem? (i := 237) rfl), List.forall_mem_cons.mpr ⟨lq_2 (List.mem_of_getElem? (i := 238) rfl), fun _ h => absurd h List.not_mem_nil⟩⟩⟩⟩⟩⟩⟩⟩⟩⟩⟩⟩⟩⟩⟩⟩⟩⟩⟩⟩⟩⟩⟩⟩
set_option maxRecDepth 20000 in
theorem wl_r28 : ∀ w ∈ wsL_law_r28, w ∈ lw_tbl := List.forall_mem_cons.mpr ⟨lq_2 (List.mem_of_getElem? (i := 239) rfl), List.forall_mem_cons.mpr ⟨lq_3 (List.mem_of_getElem? (i := 0) rfl), List.forall_mem_cons.mpr ⟨lq_4 (List.mem_of_getElem? (i := 45) rfl), List.forall_mem_cons.mpr ⟨lq_4 (List.mem_of_getElem? (i := 46) rfl), List.forall_mem_cons.mpr ⟨lq_4 (List.mem_of_getElem? (i := 47) rfl), List.forall_mem_cons.mpr ⟨lq_4 (List.mem_of_getElem? (i := 48) rfl), List.forall_mem_cons.mpr ⟨lq_3 (List.mem_of_getElem? (i := 1) rfl), List.forall_mem_cons.mpr ⟨lq_3 (List.mem_of_getElem? (i := 2) rfl), List.forall_mem_cons.mpr ⟨lq_3 (List.mem_of_getElem? (i := 3) rfl), List.forall_mem_cons.mpr ⟨lq_3 (List.mem_of_getElem? (i := 4) rfl), List.forall_mem_cons.mpr ⟨lq_4 (List.mem_of_getElem? (i := 49) rfl), List.forall_mem_cons.mpr ⟨lq_4 (List.mem_of_getElem? (i := 50) rfl), List.forall_mem_cons.mpr ⟨lq_4 (List.mem_of_getElem? (i := 51) rfl), List.forall_mem_cons.mpr ⟨lq_4 (List.mem_of_getElem? (i := 52) rfl), fun _ h => absurd h List.not_mem_nil⟩⟩⟩⟩⟩⟩⟩⟩⟩⟩⟩⟩⟩⟩
set_option maxRecDepth 20000 in
theorem wl_X4 : ∀ w ∈ wsX40, w ∈ lw_tbl := by
  show ∀ w ∈ [u_lay RX4 TX4 0, u_lay RX4 TX4 1, u_lay RX4 TX4 2, u_lay RX4 TX4 3, u_lay RX4 TX4 4, u_lay RX4 TX4 5, u_lay RX4 TX4 6, u_lay RX4 TX4 7, u_lay RX4 TX4 8, u_lay RX4 TX4 9, u_lay RX4 TX4 10], w ∈ lw_tbl
  exact List.forall_mem_cons.mpr ⟨lq_1 (List.mem_of_getElem? (i := 88) rfl), List.forall_mem_cons.mpr ⟨lq_1 (List.mem_of_getElem? (i := 90) rfl), List.forall_mem_cons.mpr ⟨lq_1 (List.mem_of_getElem? (i := 92) rfl), List.forall_mem_cons.mpr ⟨lq_1 (List.mem_of_getElem? (i := 94) rfl), List.forall_mem_cons.mpr ⟨lq_1 (List.mem_of_getElem? (i := 96) rfl), List.forall_mem_cons.mpr ⟨lq_1 (List.mem_of_getElem? (i := 98) rfl), List.forall_mem_cons.mpr ⟨lq_1 (List.mem_of_getElem? (i := 100) rfl), List.forall_mem_cons.mpr ⟨lq_1 (List.mem_of_getElem? (i := 102) rfl), List.forall_mem_cons.mpr ⟨lq_1 (List.mem_of_getElem? (i := 104) rfl), List.forall_mem_cons.mpr ⟨lq_1 (List.mem_of_getElem? (i := 106) rfl), List.forall_mem_cons.mpr ⟨lq_1 (List.mem_of_getElem? (i := 108) rfl), fun _ h => absurd h List.not_mem_nil⟩⟩⟩⟩⟩⟩⟩⟩⟩⟩⟩
set_option maxRecDepth 20000 in
theorem wl_X5 : ∀ w ∈ wsX50, w ∈ lw_tbl := by
  show ∀ w ∈ [u_lay RX5 TX5 0, u_lay RX5 TX5 1, u_lay RX5 TX5 2, u_lay RX5 TX5 3, u_lay RX5 TX5 4, u_lay RX5 TX5 5, u_lay RX5 TX5 6, u_lay RX5 TX5 7, u_lay RX5 TX5 8, u_lay RX5 TX5 9, u_lay RX5 TX5 10, u_lay RX5 TX5 11, u_lay RX5 TX5 12, u_lay RX5 TX5 13, u_lay RX5 TX5 14, u_lay RX5 TX5 15, u_lay RX5 TX5 16, u_lay RX5 TX5 17, u_lay RX5 TX5 18, u_lay RX5 TX5 19, u_lay RX5 TX5 20, u_lay RX5 TX5 21, u_lay RX5 TX5 22, u_lay RX5 TX5 23, u_lay RX5 TX5 24, u_lay RX5 TX5 25, u_lay RX5 TX5 26, u_lay RX5 TX5 27], w ∈ lw_tbl
  exact List.forall_mem_cons.mpr ⟨lq_3 (List.mem_of_getElem? (i := 39) rfl), List.forall_mem_cons.mpr ⟨lq_3 (List.mem_of_getElem? (i := 41) rfl), List.forall_mem_cons.mpr ⟨lq_3 (List.mem_of_getElem? (i := 43) rfl), List.forall_mem_cons.mpr ⟨lq_3 (List.mem_of_getElem? (i := 45) rfl), List.forall_mem_cons.mpr ⟨lq_3 (List.mem_of_getElem? (i := 47) rfl), List.forall_mem_cons.mpr ⟨lq_3 (List.mem_of_getElem? (i := 49) rfl), List.forall_mem_cons.mpr ⟨lq_3 (List.mem_of_getElem? (i := 51) rfl), List.forall_mem_cons.mpr ⟨lq_3 (List.mem_of_getElem? (i := 53) rfl), List.forall_mem_cons.mpr ⟨lq_3 (List.mem_of_getElem? (i := 55) rfl), List.forall_mem_cons.mpr ⟨lq_3 (List.mem_of_getElem? (i := 57) rfl), List.forall_mem_cons.mpr ⟨lq_3 (List.mem_of_getElem? (i := 59) rfl), List.forall_mem_cons.mpr ⟨lq_3 (List.mem_of_getElem? (i := 61) rfl), List.forall_mem_cons.mpr ⟨lq_3 (List.mem_of_getElem? (i := 63) rfl), List.forall_mem_cons.mpr ⟨lq_3 (List.mem_of_getElem? (i := 65) rfl), List.forall_mem_cons.mpr ⟨lq_3 (List.mem_of_getElem? (i := 67) rfl), List.forall_mem_cons.mpr ⟨lq_3 (List.mem_of_getElem? (i := 69) rfl), List.forall_mem_cons.mpr ⟨lq_3 (List.mem_of_getElem? (i := 71) rfl), List.forall_mem_cons.mpr ⟨lq_3 (List.mem_of_getElem? (i := 73) rfl), List.forall_mem_cons.mpr ⟨lq_3 (List.mem_of_getElem? (i := 75) rfl), List.forall_mem_cons.mpr ⟨lq_3 (List.mem_of_getElem? (i := 77) rfl), List.forall_mem_cons.mpr ⟨lq_3 (List.mem_of_getElem? (i := 79) rfl), List.forall_mem_cons.mpr ⟨lq_3 (List.mem_of_getElem? (i := 81) rfl), List.forall_mem_cons.mpr ⟨lq_3 (List.mem_of_getElem? (i := 83) rfl), List.forall_mem_cons.mpr ⟨lq_3 (List.mem_of_getElem? (i := 85) rfl), List.forall_mem_cons.mpr ⟨lq_3 (List.mem_of_getElem? (i := 87) rfl), List.forall_mem_cons.mpr ⟨lq_3 (List.mem_of_getElem? (i := 89) rfl), List.forall_mem_cons.mpr ⟨lq_3 (List.mem_of_getElem? (i := 91) rfl), List.forall_mem_cons.mpr ⟨lq_3 (List.mem_of_getElem? (i := 93) rfl), fun _ h => absurd h List.not_mem_nil⟩⟩⟩⟩⟩⟩⟩⟩⟩⟩⟩⟩⟩⟩⟩⟩⟩⟩⟩⟩⟩⟩⟩⟩⟩⟩⟩⟩
set_option maxRecDepth 20000 in
theorem wl_X2 : ∀ w ∈ wsX20, w ∈ lw_tbl := by
  show ∀ w ∈ [u_lay RX2 TX2 0, u_lay RX2 TX2 1], w ∈ lw_tbl
  exact List.forall_mem_cons.mpr ⟨lq_1 (List.mem_of_getElem? (i := 26) rfl), List.forall_mem_cons.mpr ⟨lq_1 (List.mem_of_getElem? (i := 28) rfl), fun _ h => absurd h List.not_mem_nil⟩⟩
set_option maxRecDepth 20000 in
theorem wl_X1 : ∀ w ∈ wsX10, w ∈ lw_tbl := by
  show ∀ w ∈ [u_lay RX1 TX1 0, u_lay RX1 TX1 1, u_lay RX1 TX1 2, u_lay RX1 TX1 3, u_lay RX1 TX1 4], w ∈ lw_tbl
  exact List.forall_mem_cons.mpr ⟨lq_1 (List.mem_of_getElem? (i := 43) rfl), List.forall_mem_cons.mpr ⟨lq_1 (List.mem_of_getElem? (i := 45) rfl), List.forall_mem_cons.mpr ⟨lq_1 (List.mem_of_getElem? (i := 47) rfl), List.forall_mem_cons.mpr ⟨lq_1 (List.mem_of_getElem? (i := 49) rfl), List.forall_mem_cons.mpr ⟨lq_1 (List.mem_of_getElem? (i := 51) rfl), fun _ h => absurd h List.not_mem_nil⟩⟩⟩⟩⟩
set_option maxRecDepth 20000 in
theorem wl_X3 : ∀ w ∈ wsX30, w ∈ lw_tbl := by
  show ∀ w ∈ [u_lay RX3 TX3 0, u_lay RX3 TX3 1, u_lay RX3 TX3 2, u_lay RX3 TX3 3, u_lay RX3 TX3 4], w ∈ lw_tbl
  exact List.forall_mem_cons.mpr ⟨lq_1 (List.mem_of_getElem? (i := 65) rfl), List.forall_mem_cons.mpr ⟨lq_1 (List.mem_of_getElem? (i := 67) rfl), List.forall_mem_cons.mpr ⟨lq_1 (List.mem_of_getElem? (i := 69) rfl), List.forall_mem_cons.mpr ⟨lq_1 (List.mem_of_getElem? (i := 71) rfl), List.forall_mem_cons.mpr ⟨lq_1 (List.mem_of_getElem? (i := 73) rfl), fun _ h => absurd h List.not_mem_nil⟩⟩⟩⟩⟩
theorem wsL_law_in : ∀ w ∈ wsL_law, w ∈ lw_tbl := List.forall_mem_append.mpr ⟨List.forall_mem_append.mpr ⟨List.forall_mem_append.mpr ⟨List.forall_mem_append.mpr ⟨List.forall_mem_append.mpr ⟨List.forall_mem_append.mpr ⟨List.forall_mem_append.mpr ⟨wl_r1, List.forall_mem_append.mpr ⟨wl_r2, List.forall_mem_append.mpr ⟨wl_r3, List.forall_mem_append.mpr ⟨wl_r4, List.forall_mem_append.mpr ⟨wl_r5, List.forall_mem_append.mpr ⟨wl_r6, List.forall_mem_append.mpr ⟨wl_r7, List.forall_mem_append.mpr ⟨wl_r8, List.forall_mem_append.mpr ⟨wl_r9, List.forall_mem_append.mpr ⟨wl_r10, List.forall_mem_append.mpr ⟨wl_r11, List.forall_mem_append.mpr ⟨wl_r12, List.forall_mem_append.mpr ⟨wl_r13, List.forall_mem_append.mpr ⟨wl_r14, List.forall_mem_append.mpr ⟨wl_r15, List.forall_mem_append.mpr ⟨wl_r16, List.forall_mem_append.mpr ⟨wl_r17, List.forall_mem_append.mpr ⟨wl_r18, List.forall_mem_append.mpr ⟨wl_r19, List.forall_mem_append.mpr ⟨wl_r20, List.forall_mem_append.mpr ⟨wl_r21, List.forall_mem_append.mpr ⟨wl_r22, List.forall_mem_append.mpr ⟨wl_r23, List.forall_mem_append.mpr ⟨wl_r24, List.forall_mem_append.mpr ⟨wl_r25, List.forall_mem_append.mpr ⟨wl_r26, List.forall_mem_append.mpr ⟨wl_r27, wl_r28⟩⟩⟩⟩⟩⟩⟩⟩⟩⟩⟩⟩⟩⟩⟩⟩⟩⟩⟩⟩⟩⟩⟩⟩⟩⟩⟩, wl_X4⟩, wl_X5⟩, wl_X2⟩, wl_X1⟩, wl_X3⟩, fun _ h => absurd h List.not_mem_nil⟩
theorem inX0 : ∀ w ∈ wsX00, w ∈ lw_tbl := by decide +kernel
theorem inlX1 : ∀ w ∈ wsX10, w ∈ wsL_law := fun _ h => List.mem_append_left _ (List.mem_append_left _ (List.mem_append_right _ h))
theorem inX1 : ∀ w ∈ wsX10, w ∈ lw_tbl := fun w h => wsL_law_in w (inlX1 w h)
theorem inlX2 : ∀ w ∈ wsX20, w ∈ wsL_law := fun _ h => List.mem_append_left _ (List.mem_append_left _ (List.mem_append_left _ (List.mem_append_right _ h)))
theorem inX2 : ∀ w ∈ wsX20, w ∈ lw_tbl := fun w h => wsL_law_in w (inlX2 w h)
theorem inlX3 : ∀ w ∈ wsX30, w ∈ wsL_law := fun _ h => List.mem_append_left _ (List.mem_append_right _ h)
theorem inX3 : ∀ w ∈ wsX30, w ∈ lw_tbl := fun w h => wsL_law_in w (inlX3 w h)
theorem inlX4 : ∀ w ∈ wsX40, w ∈ wsL_law := fun _ h => List.mem_append_left _ (List.mem_append_left _ (List.mem_append_left _ (List.mem_append_left _ (List.mem_append_left _ (List.mem_append_right _ h)))))
theorem inX4 : ∀ w ∈ wsX40, w ∈ lw_tbl := fun w h => wsL_law_in w (inlX4 w h)
theorem inlX5 : ∀ w ∈ wsX50, w ∈ wsL_law := fun _ h => List.mem_append_left _ (List.mem_append_left _ (List.mem_append_left _ (List.mem_append_left _ (List.mem_append_right _ h))))
theorem inX5 : ∀ w ∈ wsX50, w ∈ lw_tbl := fun w h => wsL_law_in w (inlX5 w h)
theorem inJ6 : ∀ w ∈ wsJ60, w ∈ lw_tbl := by decide +kernel
theorem inJ9 : ∀ w ∈ wsJ90, w ∈ lw_tbl := by decide +kernel
theorem inJ10 : ∀ w ∈ wsJ100, w ∈ lw_tbl := by decide +kernel
end
section
theorem dX0_at_0 : decode cX0_at 0 = .ok (.iload_n 0, 1) := by decide +kernel
theorem dX0_at_1 : decode cX0_at 1 = .ok (.iconst 4, 1) := by decide +kernel
theorem dX0_at_2 : decode cX0_at 2 = .ok (.iload_n 1, 1) := by decide +kernel
theorem dX0_at_3 : decode cX0_at 3 = .ok (.imul, 1) := by decide +kernel
theorem dX0_at_4 : decode cX0_at 4 = .ok (.iushr, 1) := by decide +kernel
theorem dX0_at_5 : decode cX0_at 5 = .ok (.bipush 15, 2) := by decide +kernel
theorem dX0_at_7 : decode cX0_at 7 = .ok (.iand, 1) := by decide +kernel
theorem dX0_at_8 : decode cX0_at 8 = .ok (.ireturn, 1) := by decide +kernel
theorem dX0_with_0 : decode cX0_with 0 = .ok (.iload_n 0, 1) := by decide +kernel
theorem dX0_with_1 : decode cX0_with 1 = .ok (.bipush 15, 2) := by decide +kernel
theorem dX0_with_3 : decode cX0_with 3 = .ok (.iconst 4, 1) := by decide +kernel
theorem dX0_with_4 : decode cX0_with 4 = .ok (.iload_n 1, 1) := by decide +kernel
theorem dX0_with_5 : decode cX0_with 5 = .ok (.imul, 1) := by decide +kernel
theorem dX0_with_6 : decode cX0_with 6 = .ok (.ishl, 1) := by decide +kernel
theorem dX0_with_7 : decode cX0_with 7 = .ok (.iconst (-1), 1) := by decide +kernel
theorem dX0_with_8 : decode cX0_with 8 = .ok (.ixor, 1) := by decide +kernel
theorem dX0_with_9 : decode cX0_with 9 = .ok (.iand, 1) := by decide +kernel
theorem dX0_with_10 : decode cX0_with 10 = .ok (.iload_n 2, 1) := by decide +kernel
theorem dX0_with_11 : decode cX0_with 11 = .ok (.iconst 4, 1) := by decide +kernel
theorem dX0_with_12 : decode cX0_with 12 = .ok (.iload_n 1, 1) := by decide +kernel
theorem dX0_with_13 : decode cX0_with 13 = .ok (.imul, 1) := by decide +kernel
theorem dX0_with_14 : decode cX0_with 14 = .ok (.ishl, 1) := by decide +kernel
theorem dX0_with_15 : decode cX0_with 15 = .ok (.ior, 1) := by decide +kernel
theorem dX0_with_16 : decode cX0_with 16 = .ok (.ireturn, 1) := by decide +kernel
set_option maxRecDepth 20000 in
theorem ggX0_swapped_X0_at : GoodIn wsX0_swapped wsX0_at := goodIn_r _ [4] (by decide +kernel) (by decide +kernel)
set_option maxRecDepth 20000 in
theorem gX0_swapped_X0_at : GoodIn wsX0_swapped (va_wsS RX0 9 yX0_at wsX0_at) := goodIn_app (goodIn_of _ (by decide +kernel)) ggX0_swapped_X0_at
set_option maxRecDepth 20000 in
theorem ggX0_swapped_X0_with : GoodIn wsX0_swapped wsX0_with := goodIn_r _ [7] (by decide +kernel) (by decide +kernel)
set_option maxRecDepth 20000 in
theorem gX0_swapped_X0_with : GoodIn wsX0_swapped (va_wsS RX0 15 yX0_with wsX0_with) := goodIn_app (goodIn_of _ (by decide +kernel)) ggX0_swapped_X0_with
theorem dX0_swapped_0 : decode cX0_swapped 0 = .ok (.iload_n 0, 1) := by decide +kernel
theorem dX0_swapped_1 : decode cX0_swapped 1 = .ok (.iload_n 1, 1) := by decide +kernel
theorem dX0_swapped_2 : decode cX0_swapped 2 = .ok (.iload_n 0, 1) := by decide +kernel
theorem dX0_swapped_3 : decode cX0_swapped 3 = .ok (.iload_n 2, 1) := by decide +kernel
theorem dX0_swapped_4 : decode cX0_swapped 4 = .ok (.invokestatic 9, 3) := by decide +kernel
theorem dX0_swapped_7 : decode cX0_swapped 7 = .ok (.invokestatic 15, 3) := by decide +kernel
theorem dX0_swapped_10 : decode cX0_swapped 10 = .ok (.iload_n 2, 1) := by decide +kernel
theorem dX0_swapped_11 : decode cX0_swapped 11 = .ok (.iload_n 0, 1) := by decide +kernel
theorem dX0_swapped_12 : decode cX0_swapped 12 = .ok (.iload_n 1, 1) := by decide +kernel
theorem dX0_swapped_13 : decode cX0_swapped 13 = .ok (.invokestatic 9, 3) := by decide +kernel
theorem dX0_swapped_16 : decode cX0_swapped 16 = .ok (.invokestatic 15, 3) := by decide +kernel
theorem dX0_swapped_19 : decode cX0_swapped 19 = .ok (.ireturn, 1) := by decide +kernel
theorem dX0_without_0 : decode cX0_without 0 = .ok (.iconst 1, 1) := by decide +kernel
theorem dX0_without_1 : decode cX0_without 1 = .ok (.iconst 4, 1) := by decide +kernel
theorem dX0_without_2 : decode cX0_without 2 = .ok (.iload_n 1, 1) := by decide +kernel
theorem dX0_without_3 : decode cX0_without 3 = .ok (.imul, 1) := by decide +kernel
theorem dX0_without_4 : decode cX0_without 4 = .ok (.ishl, 1) := by decide +kernel
theorem dX0_without_5 : decode cX0_without 5 = .ok (.iconst 1, 1) := by decide +kernel
theorem dX0_without_6 : decode cX0_without 6 = .ok (.isub, 1) := by decide +kernel
theorem dX0_without_7 : decode cX0_without 7 = .ok (.istore_n 2, 1) := by decide +kernel
theorem dX0_without_8 : decode cX0_without 8 = .ok (.iload_n 0, 1) := by decide +kernel
theorem dX0_without_9 : decode cX0_without 9 = .ok (.iload_n 2, 1) := by decide +kernel
theorem dX0_without_10 : decode cX0_without 10 = .ok (.iand, 1) := by decide +kernel
theorem dX0_without_11 : decode cX0_without 11 = .ok (.iload_n 0, 1) := by decide +kernel
theorem dX0_without_12 : decode cX0_without 12 = .ok (.iconst 4, 1) := by decide +kernel
theorem dX0_without_13 : decode cX0_without 13 = .ok (.iushr, 1) := by decide +kernel
theorem dX0_without_14 : decode cX0_without 14 = .ok (.iload_n 2, 1) := by decide +kernel
theorem dX0_without_15 : decode cX0_without 15 = .ok (.iconst (-1), 1) := by decide +kernel
theorem dX0_without_16 : decode cX0_without 16 = .ok (.ixor, 1) := by decide +kernel
theorem dX0_without_17 : decode cX0_without 17 = .ok (.iand, 1) := by decide +kernel
theorem dX0_without_18 : decode cX0_without 18 = .ok (.ior, 1) := by decide +kernel
theorem dX0_without_19 : decode cX0_without 19 = .ok (.ireturn, 1) := by decide +kernel
set_option maxRecDepth 20000 in
theorem ggX0_size_X0_at : GoodIn wsX0_size wsX0_at := goodIn_r _ [4] (by decide +kernel) (by decide +kernel)
set_option maxRecDepth 20000 in
theorem gX0_size_X0_at : GoodIn wsX0_size (va_wsS RX0 9 yX0_at wsX0_at) := goodIn_app (goodIn_of _ (by decide +kernel)) ggX0_size_X0_at
theorem dX0_size_0 : decode cX0_size 0 = .ok (.iconst 0, 1) := by decide +kernel
theorem dX0_size_1 : decode cX0_size 1 = .ok (.istore_n 1, 1) := by decide +kernel
theorem dX0_size_2 : decode cX0_size 2 = .ok (.iload_n 1, 1) := by decide +kernel
theorem dX0_size_3 : decode cX0_size 3 = .ok (.iconst 5, 1) := by decide +kernel
theorem dX0_size_4 : decode cX0_size 4 = .ok (.if_icmp .ge 17, 3) := by decide +kernel
theorem dX0_size_7 : decode cX0_size 7 = .ok (.iload_n 0, 1) := by decide +kernel
theorem dX0_size_8 : decode cX0_size 8 = .ok (.iload_n 1, 1) := by decide +kernel
theorem dX0_size_9 : decode cX0_size 9 = .ok (.invokestatic 9, 3) := by decide +kernel
theorem dX0_size_12 : decode cX0_size 12 = .ok (.ifCond .eq 9, 3) := by decide +kernel
theorem dX0_size_15 : decode cX0_size 15 = .ok (.iinc 1 1, 3) := by decide +kernel
theorem dX0_size_18 : decode cX0_size 18 = .ok (.goto (-16), 3) := by decide +kernel
theorem dX0_size_21 : decode cX0_size 21 = .ok (.iload_n 1, 1) := by decide +kernel
theorem dX0_size_22 : decode cX0_size 22 = .ok (.ireturn, 1) := by decide +kernel
set_option maxRecDepth 20000 in
theorem ggX0_members_X0_size : GoodIn wsX0_members wsX0_size := goodIn_r _ [4, 5, 6, 3, 7] (by decide +kernel) (by decide +kernel)
set_option maxRecDepth 20000 in
theorem gX0_members_X0_size : GoodIn wsX0_members (va_wsS RX0 19 yX0_size wsX0_size) := goodIn_app (goodIn_of _ (by decide +kernel)) ggX0_members_X0_size
set_option maxRecDepth 20000 in
theorem ggX0_members_X0_at : GoodIn wsX0_members wsX0_at := goodIn_r _ [7] (by decide +kernel) (by decide +kernel)
set_option maxRecDepth 20000 in
theorem gX0_members_X0_at : GoodIn wsX0_members (va_wsS RX0 9 yX0_at wsX0_at) := goodIn_app (goodIn_of _ (by decide +kernel)) ggX0_members_X0_at
theorem dX0_members_0 : decode cX0_members 0 = .ok (.iconst 0, 1) := by decide +kernel
theorem dX0_members_1 : decode cX0_members 1 = .ok (.istore_n 1, 1) := by decide +kernel
theorem dX0_members_2 : decode cX0_members 2 = .ok (.iconst 0, 1) := by decide +kernel
theorem dX0_members_3 : decode cX0_members 3 = .ok (.istore_n 2, 1) := by decide +kernel
theorem dX0_members_4 : decode cX0_members 4 = .ok (.iload_n 2, 1) := by decide +kernel
theorem dX0_members_5 : decode cX0_members 5 = .ok (.iload_n 0, 1) := by decide +kernel
theorem dX0_members_6 : decode cX0_members 6 = .ok (.invokestatic 19, 3) := by decide +kernel
theorem dX0_members_9 : decode cX0_members 9 = .ok (.if_icmp .ge 21, 3) := by decide +kernel
theorem dX0_members_12 : decode cX0_members 12 = .ok (.iload_n 1, 1) := by decide +kernel
theorem dX0_members_13 : decode cX0_members 13 = .ok (.iconst 1, 1) := by decide +kernel
theorem dX0_members_14 : decode cX0_members 14 = .ok (.iload_n 0, 1) := by decide +kernel
theorem dX0_members_15 : decode cX0_members 15 = .ok (.iload_n 2, 1) := by decide +kernel
theorem dX0_members_16 : decode cX0_members 16 = .ok (.invokestatic 9, 3) := by decide +kernel
theorem dX0_members_19 : decode cX0_members 19 = .ok (.iconst 1, 1) := by decide +kernel
theorem dX0_members_20 : decode cX0_members 20 = .ok (.isub, 1) := by decide +kernel
theorem dX0_members_21 : decode cX0_members 21 = .ok (.ishl, 1) := by decide +kernel
theorem dX0_members_22 : decode cX0_members 22 = .ok (.ior, 1) := by decide +kernel
theorem dX0_members_23 : decode cX0_members 23 = .ok (.istore_n 1, 1) := by decide +kernel
theorem dX0_members_24 : decode cX0_members 24 = .ok (.iinc 2 1, 3) := by decide +kernel
theorem dX0_members_27 : decode cX0_members 27 = .ok (.goto (-23), 3) := by decide +kernel
theorem dX0_members_30 : decode cX0_members 30 = .ok (.iload_n 1, 1) := by decide +kernel
theorem dX0_members_31 : decode cX0_members 31 = .ok (.ireturn, 1) := by decide +kernel
set_option maxRecDepth 20000 in
theorem ggX0_figures_X0_size : GoodIn wsX0_figures wsX0_size := goodIn_r _ [4, 5, 6, 3, 7] (by decide +kernel) (by decide +kernel)
set_option maxRecDepth 20000 in
theorem gX0_figures_X0_size : GoodIn wsX0_figures (va_wsS RX0 19 yX0_size wsX0_size) := goodIn_app (goodIn_of _ (by decide +kernel)) ggX0_figures_X0_size
set_option maxRecDepth 20000 in
theorem ggX0_figures_X0_at : GoodIn wsX0_figures wsX0_at := goodIn_r _ [7] (by decide +kernel) (by decide +kernel)
set_option maxRecDepth 20000 in
theorem gX0_figures_X0_at : GoodIn wsX0_figures (va_wsS RX0 9 yX0_at wsX0_at) := goodIn_app (goodIn_of _ (by decide +kernel)) ggX0_figures_X0_at
theorem dX0_figures_0 : decode cX0_figures 0 = .ok (.iconst 0, 1) := by decide +kernel
theorem dX0_figures_1 : decode cX0_figures 1 = .ok (.istore_n 1, 1) := by decide +kernel
theorem dX0_figures_2 : decode cX0_figures 2 = .ok (.iconst 0, 1) := by decide +kernel
theorem dX0_figures_3 : decode cX0_figures 3 = .ok (.istore_n 2, 1) := by decide +kernel
theorem dX0_figures_4 : decode cX0_figures 4 = .ok (.iload_n 2, 1) := by decide +kernel
theorem dX0_figures_5 : decode cX0_figures 5 = .ok (.iload_n 0, 1) := by decide +kernel
theorem dX0_figures_6 : decode cX0_figures 6 = .ok (.invokestatic 19, 3) := by decide +kernel
theorem dX0_figures_9 : decode cX0_figures 9 = .ok (.if_icmp .ge 20, 3) := by decide +kernel
theorem dX0_figures_12 : decode cX0_figures 12 = .ok (.iload_n 1, 1) := by decide +kernel
theorem dX0_figures_13 : decode cX0_figures 13 = .ok (.bipush 10, 2) := by decide +kernel
theorem dX0_figures_15 : decode cX0_figures 15 = .ok (.imul, 1) := by decide +kernel
theorem dX0_figures_16 : decode cX0_figures 16 = .ok (.iload_n 0, 1) := by decide +kernel
theorem dX0_figures_17 : decode cX0_figures 17 = .ok (.iload_n 2, 1) := by decide +kernel
theorem dX0_figures_18 : decode cX0_figures 18 = .ok (.invokestatic 9, 3) := by decide +kernel
theorem dX0_figures_21 : decode cX0_figures 21 = .ok (.iadd, 1) := by decide +kernel
theorem dX0_figures_22 : decode cX0_figures 22 = .ok (.istore_n 1, 1) := by decide +kernel
theorem dX0_figures_23 : decode cX0_figures 23 = .ok (.iinc 2 1, 3) := by decide +kernel
theorem dX0_figures_26 : decode cX0_figures 26 = .ok (.goto (-22), 3) := by decide +kernel
theorem dX0_figures_29 : decode cX0_figures 29 = .ok (.iload_n 1, 1) := by decide +kernel
theorem dX0_figures_30 : decode cX0_figures 30 = .ok (.ireturn, 1) := by decide +kernel
set_option maxRecDepth 20000 in
theorem ggX0_only_X0_size : GoodIn wsX0_only wsX0_size := goodIn_r _ [4, 5, 6, 3, 7] (by decide +kernel) (by decide +kernel)
set_option maxRecDepth 20000 in
theorem gX0_only_X0_size : GoodIn wsX0_only (va_wsS RX0 19 yX0_size wsX0_size) := goodIn_app (goodIn_of _ (by decide +kernel)) ggX0_only_X0_size
set_option maxRecDepth 20000 in
theorem ggX0_only_X0_at : GoodIn wsX0_only wsX0_at := goodIn_r _ [7] (by decide +kernel) (by decide +kernel)
set_option maxRecDepth 20000 in
theorem gX0_only_X0_at : GoodIn wsX0_only (va_wsS RX0 9 yX0_at wsX0_at) := goodIn_app (goodIn_of _ (by decide +kernel)) ggX0_only_X0_at
set_option maxRecDepth 20000 in
theorem ggX0_only_X0_without : GoodIn wsX0_only wsX0_without := goodIn_r _ [10] (by decide +kernel) (by decide +kernel)
set_option maxRecDepth 20000 in
theorem gX0_only_X0_without : GoodIn wsX0_only (va_wsS RX0 23 yX0_without wsX0_without) := goodIn_app (goodIn_of _ (by decide +kernel)) ggX0_only_X0_without
theorem dX0_only_0 : decode cX0_only 0 = .ok (.iload_n 0, 1) := by decide +kernel
theorem dX0_only_1 : decode cX0_only 1 = .ok (.istore_n 2, 1) := by decide +kernel
theorem dX0_only_2 : decode cX0_only 2 = .ok (.iload_n 0, 1) := by decide +kernel
theorem dX0_only_3 : decode cX0_only 3 = .ok (.invokestatic 19, 3) := by decide +kernel
theorem dX0_only_6 : decode cX0_only 6 = .ok (.iconst 1, 1) := by decide +kernel
theorem dX0_only_7 : decode cX0_only 7 = .ok (.isub, 1) := by decide +kernel
theorem dX0_only_8 : decode cX0_only 8 = .ok (.istore_n 3, 1) := by decide +kernel
theorem dX0_only_9 : decode cX0_only 9 = .ok (.iload_n 3, 1) := by decide +kernel
theorem dX0_only_10 : decode cX0_only 10 = .ok (.ifCond .lt 29, 3) := by decide +kernel
theorem dX0_only_13 : decode cX0_only 13 = .ok (.iload_n 1, 1) := by decide +kernel
theorem dX0_only_14 : decode cX0_only 14 = .ok (.iload_n 0, 1) := by decide +kernel
theorem dX0_only_15 : decode cX0_only 15 = .ok (.iload_n 3, 1) := by decide +kernel
theorem dX0_only_16 : decode cX0_only 16 = .ok (.invokestatic 9, 3) := by decide +kernel
theorem dX0_only_19 : decode cX0_only 19 = .ok (.iconst 1, 1) := by decide +kernel
theorem dX0_only_20 : decode cX0_only 20 = .ok (.isub, 1) := by decide +kernel
theorem dX0_only_21 : decode cX0_only 21 = .ok (.ishr, 1) := by decide +kernel
theorem dX0_only_22 : decode cX0_only 22 = .ok (.iconst 1, 1) := by decide +kernel
theorem dX0_only_23 : decode cX0_only 23 = .ok (.iand, 1) := by decide +kernel
theorem dX0_only_24 : decode cX0_only 24 = .ok (.ifCond .ne 9, 3) := by decide +kernel
theorem dX0_only_27 : decode cX0_only 27 = .ok (.iload_n 2, 1) := by decide +kernel
theorem dX0_only_28 : decode cX0_only 28 = .ok (.iload_n 3, 1) := by decide +kernel
theorem dX0_only_29 : decode cX0_only 29 = .ok (.invokestatic 23, 3) := by decide +kernel
theorem dX0_only_32 : decode cX0_only 32 = .ok (.istore_n 2, 1) := by decide +kernel
theorem dX0_only_33 : decode cX0_only 33 = .ok (.iinc 3 (-1), 3) := by decide +kernel
theorem dX0_only_36 : decode cX0_only 36 = .ok (.goto (-27), 3) := by decide +kernel
theorem dX0_only_39 : decode cX0_only 39 = .ok (.iload_n 2, 1) := by decide +kernel
theorem dX0_only_40 : decode cX0_only 40 = .ok (.ireturn, 1) := by decide +kernel
set_option maxRecDepth 20000 in
theorem ggX0_ascending_X0_with : GoodIn wsX0_ascending wsX0_with := goodIn_r _ [4] (by decide +kernel) (by decide +kernel)
set_option maxRecDepth 20000 in
theorem gX0_ascending_X0_with : GoodIn wsX0_ascending (va_wsS RX0 15 yX0_with wsX0_with) := goodIn_app (goodIn_of _ (by decide +kernel)) ggX0_ascending_X0_with
theorem dX0_ascending_0 : decode cX0_ascending 0 = .ok (.iconst 0, 1) := by decide +kernel
theorem dX0_ascending_1 : decode cX0_ascending 1 = .ok (.istore_n 1, 1) := by decide +kernel
theorem dX0_ascending_2 : decode cX0_ascending 2 = .ok (.iconst 0, 1) := by decide +kernel
theorem dX0_ascending_3 : decode cX0_ascending 3 = .ok (.istore_n 2, 1) := by decide +kernel
theorem dX0_ascending_4 : decode cX0_ascending 4 = .ok (.iconst 0, 1) := by decide +kernel
theorem dX0_ascending_5 : decode cX0_ascending 5 = .ok (.istore_n 3, 1) := by decide +kernel
theorem dX0_ascending_6 : decode cX0_ascending 6 = .ok (.iload_n 3, 1) := by decide +kernel
theorem dX0_ascending_7 : decode cX0_ascending 7 = .ok (.iconst 5, 1) := by decide +kernel
theorem dX0_ascending_8 : decode cX0_ascending 8 = .ok (.if_icmp .ge 30, 3) := by decide +kernel
theorem dX0_ascending_11 : decode cX0_ascending 11 = .ok (.iload_n 0, 1) := by decide +kernel
theorem dX0_ascending_12 : decode cX0_ascending 12 = .ok (.iload_n 3, 1) := by decide +kernel
theorem dX0_ascending_13 : decode cX0_ascending 13 = .ok (.ishr, 1) := by decide +kernel
theorem dX0_ascending_14 : decode cX0_ascending 14 = .ok (.iconst 1, 1) := by decide +kernel
theorem dX0_ascending_15 : decode cX0_ascending 15 = .ok (.iand, 1) := by decide +kernel
theorem dX0_ascending_16 : decode cX0_ascending 16 = .ok (.iconst 1, 1) := by decide +kernel
theorem dX0_ascending_17 : decode cX0_ascending 17 = .ok (.if_icmp .ne 15, 3) := by decide +kernel
theorem dX0_ascending_20 : decode cX0_ascending 20 = .ok (.iload_n 1, 1) := by decide +kernel
theorem dX0_ascending_21 : decode cX0_ascending 21 = .ok (.iload_n 2, 1) := by decide +kernel
theorem dX0_ascending_22 : decode cX0_ascending 22 = .ok (.iload_n 3, 1) := by decide +kernel
theorem dX0_ascending_23 : decode cX0_ascending 23 = .ok (.iconst 1, 1) := by decide +kernel
theorem dX0_ascending_24 : decode cX0_ascending 24 = .ok (.iadd, 1) := by decide +kernel
theorem dX0_ascending_25 : decode cX0_ascending 25 = .ok (.invokestatic 15, 3) := by decide +kernel
theorem dX0_ascending_28 : decode cX0_ascending 28 = .ok (.istore_n 1, 1) := by decide +kernel
theorem dX0_ascending_29 : decode cX0_ascending 29 = .ok (.iinc 2 1, 3) := by decide +kernel
theorem dX0_ascending_32 : decode cX0_ascending 32 = .ok (.iinc 3 1, 3) := by decide +kernel
theorem dX0_ascending_35 : decode cX0_ascending 35 = .ok (.goto (-29), 3) := by decide +kernel
theorem dX0_ascending_38 : decode cX0_ascending 38 = .ok (.iload_n 1, 1) := by decide +kernel
theorem dX0_ascending_39 : decode cX0_ascending 39 = .ok (.ireturn, 1) := by decide +kernel
set_option maxRecDepth 20000 in
theorem ggX0_nextOrder_X0_size : GoodIn wsX0_nextOrder wsX0_size := goodIn_r _ [4, 5, 6, 3, 7] (by decide +kernel) (by decide +kernel)
set_option maxRecDepth 20000 in
theorem gX0_nextOrder_X0_size : GoodIn wsX0_nextOrder (va_wsS RX0 19 yX0_size wsX0_size) := goodIn_app (goodIn_of _ (by decide +kernel)) ggX0_nextOrder_X0_size
set_option maxRecDepth 20000 in
theorem ggX0_nextOrder_X0_at : GoodIn wsX0_nextOrder wsX0_at := goodIn_r _ [7] (by decide +kernel) (by decide +kernel)
set_option maxRecDepth 20000 in
theorem gX0_nextOrder_X0_at : GoodIn wsX0_nextOrder (va_wsS RX0 9 yX0_at wsX0_at) := goodIn_app (goodIn_of _ (by decide +kernel)) ggX0_nextOrder_X0_at
set_option maxRecDepth 20000 in
theorem ggX0_nextOrder_X0_swapped : GoodIn wsX0_nextOrder wsX0_swapped := goodIn_r _ [10, 5, 6, 3, 7, 11, 12, 13] (by decide +kernel) (by decide +kernel)
set_option maxRecDepth 20000 in
theorem gX0_nextOrder_X0_swapped : GoodIn wsX0_nextOrder (va_wsS RX0 26 yX0_swapped wsX0_swapped) := goodIn_app (goodIn_of _ (by decide +kernel)) ggX0_nextOrder_X0_swapped
theorem dX0_nextOrder_0 : decode cX0_nextOrder 0 = .ok (.iload_n 0, 1) := by decide +kernel
theorem dX0_nextOrder_1 : decode cX0_nextOrder 1 = .ok (.invokestatic 19, 3) := by decide +kernel
theorem dX0_nextOrder_4 : decode cX0_nextOrder 4 = .ok (.iconst 1, 1) := by decide +kernel
theorem dX0_nextOrder_5 : decode cX0_nextOrder 5 = .ok (.isub, 1) := by decide +kernel
theorem dX0_nextOrder_6 : decode cX0_nextOrder 6 = .ok (.istore_n 1, 1) := by decide +kernel
theorem dX0_nextOrder_7 : decode cX0_nextOrder 7 = .ok (.iload_n 1, 1) := by decide +kernel
theorem dX0_nextOrder_8 : decode cX0_nextOrder 8 = .ok (.iconst 1, 1) := by decide +kernel
theorem dX0_nextOrder_9 : decode cX0_nextOrder 9 = .ok (.isub, 1) := by decide +kernel
theorem dX0_nextOrder_10 : decode cX0_nextOrder 10 = .ok (.istore_n 2, 1) := by decide +kernel
theorem dX0_nextOrder_11 : decode cX0_nextOrder 11 = .ok (.iload_n 2, 1) := by decide +kernel
theorem dX0_nextOrder_12 : decode cX0_nextOrder 12 = .ok (.ifCond .lt 24, 3) := by decide +kernel
theorem dX0_nextOrder_15 : decode cX0_nextOrder 15 = .ok (.iload_n 0, 1) := by decide +kernel
theorem dX0_nextOrder_16 : decode cX0_nextOrder 16 = .ok (.iload_n 2, 1) := by decide +kernel
theorem dX0_nextOrder_17 : decode cX0_nextOrder 17 = .ok (.invokestatic 9, 3) := by decide +kernel
theorem dX0_nextOrder_20 : decode cX0_nextOrder 20 = .ok (.iload_n 0, 1) := by decide +kernel
theorem dX0_nextOrder_21 : decode cX0_nextOrder 21 = .ok (.iload_n 2, 1) := by decide +kernel
theorem dX0_nextOrder_22 : decode cX0_nextOrder 22 = .ok (.iconst 1, 1) := by decide +kernel
theorem dX0_nextOrder_23 : decode cX0_nextOrder 23 = .ok (.iadd, 1) := by decide +kernel
theorem dX0_nextOrder_24 : decode cX0_nextOrder 24 = .ok (.invokestatic 9, 3) := by decide +kernel
theorem dX0_nextOrder_27 : decode cX0_nextOrder 27 = .ok (.if_icmp .le 9, 3) := by decide +kernel
theorem dX0_nextOrder_30 : decode cX0_nextOrder 30 = .ok (.iinc 2 (-1), 3) := by decide +kernel
theorem dX0_nextOrder_33 : decode cX0_nextOrder 33 = .ok (.goto (-22), 3) := by decide +kernel
theorem dX0_nextOrder_36 : decode cX0_nextOrder 36 = .ok (.iload_n 2, 1) := by decide +kernel
theorem dX0_nextOrder_37 : decode cX0_nextOrder 37 = .ok (.ifCond .ge 5, 3) := by decide +kernel
theorem dX0_nextOrder_40 : decode cX0_nextOrder 40 = .ok (.iconst 0, 1) := by decide +kernel
theorem dX0_nextOrder_41 : decode cX0_nextOrder 41 = .ok (.ireturn, 1) := by decide +kernel
theorem dX0_nextOrder_42 : decode cX0_nextOrder 42 = .ok (.iload_n 1, 1) := by decide +kernel
theorem dX0_nextOrder_43 : decode cX0_nextOrder 43 = .ok (.istore_n 3, 1) := by decide +kernel
theorem dX0_nextOrder_44 : decode cX0_nextOrder 44 = .ok (.iload_n 3, 1) := by decide +kernel
theorem dX0_nextOrder_45 : decode cX0_nextOrder 45 = .ok (.iload_n 2, 1) := by decide +kernel
theorem dX0_nextOrder_46 : decode cX0_nextOrder 46 = .ok (.iconst 1, 1) := by decide +kernel
theorem dX0_nextOrder_47 : decode cX0_nextOrder 47 = .ok (.iadd, 1) := by decide +kernel
theorem dX0_nextOrder_48 : decode cX0_nextOrder 48 = .ok (.if_icmp .le 22, 3) := by decide +kernel
theorem dX0_nextOrder_51 : decode cX0_nextOrder 51 = .ok (.iload_n 0, 1) := by decide +kernel
theorem dX0_nextOrder_52 : decode cX0_nextOrder 52 = .ok (.iload_n 3, 1) := by decide +kernel
theorem dX0_nextOrder_53 : decode cX0_nextOrder 53 = .ok (.invokestatic 9, 3) := by decide +kernel
theorem dX0_nextOrder_56 : decode cX0_nextOrder 56 = .ok (.iload_n 0, 1) := by decide +kernel
theorem dX0_nextOrder_57 : decode cX0_nextOrder 57 = .ok (.iload_n 2, 1) := by decide +kernel
theorem dX0_nextOrder_58 : decode cX0_nextOrder 58 = .ok (.invokestatic 9, 3) := by decide +kernel
theorem dX0_nextOrder_61 : decode cX0_nextOrder 61 = .ok (.if_icmp .ge 9, 3) := by decide +kernel
theorem dX0_nextOrder_64 : decode cX0_nextOrder 64 = .ok (.iinc 3 (-1), 3) := by decide +kernel
theorem dX0_nextOrder_67 : decode cX0_nextOrder 67 = .ok (.goto (-23), 3) := by decide +kernel
theorem dX0_nextOrder_70 : decode cX0_nextOrder 70 = .ok (.iload_n 0, 1) := by decide +kernel
theorem dX0_nextOrder_71 : decode cX0_nextOrder 71 = .ok (.iload_n 2, 1) := by decide +kernel
theorem dX0_nextOrder_72 : decode cX0_nextOrder 72 = .ok (.iload_n 3, 1) := by decide +kernel
theorem dX0_nextOrder_73 : decode cX0_nextOrder 73 = .ok (.invokestatic 26, 3) := by decide +kernel
theorem dX0_nextOrder_76 : decode cX0_nextOrder 76 = .ok (.istore 4, 2) := by decide +kernel
theorem dX0_nextOrder_78 : decode cX0_nextOrder 78 = .ok (.iload_n 1, 1) := by decide +kernel
theorem dX0_nextOrder_79 : decode cX0_nextOrder 79 = .ok (.istore 5, 2) := by decide +kernel
theorem dX0_nextOrder_81 : decode cX0_nextOrder 81 = .ok (.iload_n 2, 1) := by decide +kernel
theorem dX0_nextOrder_82 : decode cX0_nextOrder 82 = .ok (.iconst 1, 1) := by decide +kernel
theorem dX0_nextOrder_83 : decode cX0_nextOrder 83 = .ok (.iadd, 1) := by decide +kernel
theorem dX0_nextOrder_84 : decode cX0_nextOrder 84 = .ok (.istore 6, 2) := by decide +kernel
theorem dX0_nextOrder_86 : decode cX0_nextOrder 86 = .ok (.iload 6, 2) := by decide +kernel
theorem dX0_nextOrder_88 : decode cX0_nextOrder 88 = .ok (.iload 5, 2) := by decide +kernel
theorem dX0_nextOrder_90 : decode cX0_nextOrder 90 = .ok (.if_icmp .ge 23, 3) := by decide +kernel
theorem dX0_nextOrder_93 : decode cX0_nextOrder 93 = .ok (.iload 4, 2) := by decide +kernel
theorem dX0_nextOrder_95 : decode cX0_nextOrder 95 = .ok (.iload 6, 2) := by decide +kernel
theorem dX0_nextOrder_97 : decode cX0_nextOrder 97 = .ok (.iload 5, 2) := by decide +kernel
theorem dX0_nextOrder_99 : decode cX0_nextOrder 99 = .ok (.invokestatic 26, 3) := by decide +kernel
theorem dX0_nextOrder_102 : decode cX0_nextOrder 102 = .ok (.istore 4, 2) := by decide +kernel
theorem dX0_nextOrder_104 : decode cX0_nextOrder 104 = .ok (.iinc 5 (-1), 3) := by decide +kernel
theorem dX0_nextOrder_107 : decode cX0_nextOrder 107 = .ok (.iinc 6 1, 3) := by decide +kernel
theorem dX0_nextOrder_110 : decode cX0_nextOrder 110 = .ok (.goto (-24), 3) := by decide +kernel
theorem dX0_nextOrder_113 : decode cX0_nextOrder 113 = .ok (.iload 4, 2) := by decide +kernel
theorem dX0_nextOrder_115 : decode cX0_nextOrder 115 = .ok (.ireturn, 1) := by decide +kernel
theorem dX1_init_0 : decode cX1_init 0 = .ok (.aload_n 0, 1) := by decide +kernel
theorem dX1_init_1 : decode cX1_init 1 = .ok (.invokespecial 1, 3) := by decide +kernel
theorem dX1_init_4 : decode cX1_init 4 = .ok (.aload_n 0, 1) := by decide +kernel
theorem dX1_init_5 : decode cX1_init 5 = .ok (.iconst 0, 1) := by decide +kernel
theorem dX1_init_6 : decode cX1_init 6 = .ok (.putfield 7, 3) := by decide +kernel
theorem dX1_init_9 : decode cX1_init 9 = .ok (.aload_n 0, 1) := by decide +kernel
theorem dX1_init_10 : decode cX1_init 10 = .ok (.iconst 1, 1) := by decide +kernel
theorem dX1_init_11 : decode cX1_init 11 = .ok (.putfield 13, 3) := by decide +kernel
theorem dX1_init_14 : decode cX1_init 14 = .ok (.aload_n 0, 1) := by decide +kernel
theorem dX1_init_15 : decode cX1_init 15 = .ok (.bipush 9, 2) := by decide +kernel
theorem dX1_init_17 : decode cX1_init 17 = .ok (.putfield 16, 3) := by decide +kernel
theorem dX1_init_20 : decode cX1_init 20 = .ok (.aload_n 0, 1) := by decide +kernel
theorem dX1_init_21 : decode cX1_init 21 = .ok (.iconst 0, 1) := by decide +kernel
theorem dX1_init_22 : decode cX1_init 22 = .ok (.putfield 19, 3) := by decide +kernel
theorem dX1_init_25 : decode cX1_init 25 = .ok (.aload_n 0, 1) := by decide +kernel
theorem dX1_init_26 : decode cX1_init 26 = .ok (.iconst 0, 1) := by decide +kernel
theorem dX1_init_27 : decode cX1_init 27 = .ok (.putfield 22, 3) := by decide +kernel
theorem dX1_init_30 : decode cX1_init 30 = .ok (.return_, 1) := by decide +kernel
set_option maxRecDepth 20000 in
theorem ggX1_read_X2_figure : GoodIn wsX1_read wsX2_figure := goodIn_r _ [10, 11, 12, 13, 9, 14, 15, 39, 40] (by decide +kernel) (by decide +kernel)
set_option maxRecDepth 20000 in
theorem gX1_read_X2_figure : GoodIn wsX1_read (wsV RX1 25 RX2 yX2_figure wsX2_figure) := goodIn_app (goodIn_of _ (by decide +kernel)) ggX1_read_X2_figure
set_option maxRecDepth 20000 in
theorem ggX1_read_X2_parts : GoodIn wsX1_read wsX2_parts := goodIn_r _ [19, 20, 39, 40] (by decide +kernel) (by decide +kernel)
set_option maxRecDepth 20000 in
theorem gX1_read_X2_parts : GoodIn wsX1_read (wsV RX1 31 RX2 yX2_parts wsX2_parts) := goodIn_app (goodIn_of _ (by decide +kernel)) ggX1_read_X2_parts
set_option maxRecDepth 20000 in
theorem ggX1_read_X2_nerve : GoodIn wsX1_read wsX2_nerve := goodIn_r _ [24, 25, 7, 8, 9, 10, 11, 12, 13, 14, 15, 39, 40] (by decide +kernel) (by decide +kernel)
set_option maxRecDepth 20000 in
theorem gX1_read_X2_nerve : GoodIn wsX1_read (wsV RX1 35 RX2 yX2_nerve wsX2_nerve) := goodIn_app (goodIn_of _ (by decide +kernel)) ggX1_read_X2_nerve
set_option maxRecDepth 20000 in
theorem ggX1_read_X0_with : GoodIn wsX1_read wsX0_with := goodIn_r _ [29] (by decide +kernel) (by decide +kernel)
set_option maxRecDepth 20000 in
theorem gX1_read_X0_with : GoodIn wsX1_read (va_wsS RX1 38 yX0_with wsX0_with) := goodIn_app (goodIn_of _ (by decide +kernel)) ggX1_read_X0_with
set_option maxRecDepth 20000 in
theorem ggX1_read_X2_kind : GoodIn wsX1_read wsX2_kind := goodIn_r _ [33, 25, 7, 8, 9, 10, 11, 12, 13, 14, 15, 39, 40] (by decide +kernel) (by decide +kernel)
set_option maxRecDepth 20000 in
theorem gX1_read_X2_kind : GoodIn wsX1_read (wsV RX1 44 RX2 yX2_kind wsX2_kind) := goodIn_app (goodIn_of _ (by decide +kernel)) ggX1_read_X2_kind
theorem dX1_read_0 : decode cX1_read 0 = .ok (.aload_n 0, 1) := by decide +kernel
theorem dX1_read_1 : decode cX1_read 1 = .ok (.aload_n 1, 1) := by decide +kernel
theorem dX1_read_2 : decode cX1_read 2 = .ok (.iconst 1, 1) := by decide +kernel
theorem dX1_read_3 : decode cX1_read 3 = .ok (.invokevirtual 25, 3) := by decide +kernel
theorem dX1_read_6 : decode cX1_read 6 = .ok (.putfield 13, 3) := by decide +kernel
theorem dX1_read_9 : decode cX1_read 9 = .ok (.aload_n 0, 1) := by decide +kernel
theorem dX1_read_10 : decode cX1_read 10 = .ok (.aload_n 1, 1) := by decide +kernel
theorem dX1_read_11 : decode cX1_read 11 = .ok (.iconst 2, 1) := by decide +kernel
theorem dX1_read_12 : decode cX1_read 12 = .ok (.invokevirtual 25, 3) := by decide +kernel
theorem dX1_read_15 : decode cX1_read 15 = .ok (.putfield 16, 3) := by decide +kernel
theorem dX1_read_18 : decode cX1_read 18 = .ok (.aload_n 0, 1) := by decide +kernel
theorem dX1_read_19 : decode cX1_read 19 = .ok (.aload_n 1, 1) := by decide +kernel
theorem dX1_read_20 : decode cX1_read 20 = .ok (.invokevirtual 31, 3) := by decide +kernel
theorem dX1_read_23 : decode cX1_read 23 = .ok (.putfield 7, 3) := by decide +kernel
theorem dX1_read_26 : decode cX1_read 26 = .ok (.iconst 0, 1) := by decide +kernel
theorem dX1_read_27 : decode cX1_read 27 = .ok (.istore_n 2, 1) := by decide +kernel
theorem dX1_read_28 : decode cX1_read 28 = .ok (.iload_n 2, 1) := by decide +kernel
theorem dX1_read_29 : decode cX1_read 29 = .ok (.aload_n 0, 1) := by decide +kernel
theorem dX1_read_30 : decode cX1_read 30 = .ok (.getfield 7, 3) := by decide +kernel
theorem dX1_read_33 : decode cX1_read 33 = .ok (.if_icmp .ge 43, 3) := by decide +kernel
theorem dX1_read_36 : decode cX1_read 36 = .ok (.aload_n 0, 1) := by decide +kernel
theorem dX1_read_37 : decode cX1_read 37 = .ok (.aload_n 0, 1) := by decide +kernel
theorem dX1_read_38 : decode cX1_read 38 = .ok (.getfield 19, 3) := by decide +kernel
theorem dX1_read_41 : decode cX1_read 41 = .ok (.iload_n 2, 1) := by decide +kernel
theorem dX1_read_42 : decode cX1_read 42 = .ok (.aload_n 1, 1) := by decide +kernel
theorem dX1_read_43 : decode cX1_read 43 = .ok (.iload_n 2, 1) := by decide +kernel
theorem dX1_read_44 : decode cX1_read 44 = .ok (.invokevirtual 35, 3) := by decide +kernel
theorem dX1_read_47 : decode cX1_read 47 = .ok (.invokestatic 38, 3) := by decide +kernel
theorem dX1_read_50 : decode cX1_read 50 = .ok (.putfield 19, 3) := by decide +kernel
theorem dX1_read_53 : decode cX1_read 53 = .ok (.aload_n 0, 1) := by decide +kernel
theorem dX1_read_54 : decode cX1_read 54 = .ok (.aload_n 0, 1) := by decide +kernel
theorem dX1_read_55 : decode cX1_read 55 = .ok (.getfield 22, 3) := by decide +kernel
theorem dX1_read_58 : decode cX1_read 58 = .ok (.iload_n 2, 1) := by decide +kernel
theorem dX1_read_59 : decode cX1_read 59 = .ok (.aload_n 1, 1) := by decide +kernel
theorem dX1_read_60 : decode cX1_read 60 = .ok (.iload_n 2, 1) := by decide +kernel
theorem dX1_read_61 : decode cX1_read 61 = .ok (.invokevirtual 44, 3) := by decide +kernel
theorem dX1_read_64 : decode cX1_read 64 = .ok (.invokestatic 38, 3) := by decide +kernel
theorem dX1_read_67 : decode cX1_read 67 = .ok (.putfield 22, 3) := by decide +kernel
theorem dX1_read_70 : decode cX1_read 70 = .ok (.iinc 2 1, 3) := by decide +kernel
theorem dX1_read_73 : decode cX1_read 73 = .ok (.goto (-45), 3) := by decide +kernel
theorem dX1_read_76 : decode cX1_read 76 = .ok (.return_, 1) := by decide +kernel
theorem dX1_walkers_0 : decode cX1_walkers 0 = .ok (.aload_n 0, 1) := by decide +kernel
theorem dX1_walkers_1 : decode cX1_walkers 1 = .ok (.getfield 7, 3) := by decide +kernel
theorem dX1_walkers_4 : decode cX1_walkers 4 = .ok (.ireturn, 1) := by decide +kernel
theorem dX1_light_0 : decode cX1_light 0 = .ok (.aload_n 0, 1) := by decide +kernel
theorem dX1_light_1 : decode cX1_light 1 = .ok (.getfield 13, 3) := by decide +kernel
theorem dX1_light_4 : decode cX1_light 4 = .ok (.ireturn, 1) := by decide +kernel
theorem dX1_water_0 : decode cX1_water 0 = .ok (.aload_n 0, 1) := by decide +kernel
theorem dX1_water_1 : decode cX1_water 1 = .ok (.getfield 16, 3) := by decide +kernel
theorem dX1_water_4 : decode cX1_water 4 = .ok (.ireturn, 1) := by decide +kernel
set_option maxRecDepth 20000 in
theorem ggX1_has_X4_within : GoodIn wsX1_has wsX4_within := goodIn_r _ [4] (by decide +kernel) (by decide +kernel)
set_option maxRecDepth 20000 in
theorem gX1_has_X4_within_n47 : GoodIn wsX1_has (wsX4_within) := ggX1_has_X4_within
theorem dX1_has_0 : decode cX1_has 0 = .ok (.iload_n 1, 1) := by decide +kernel
theorem dX1_has_1 : decode cX1_has 1 = .ok (.iconst 0, 1) := by decide +kernel
theorem dX1_has_2 : decode cX1_has 2 = .ok (.aload_n 0, 1) := by decide +kernel
theorem dX1_has_3 : decode cX1_has 3 = .ok (.getfield 7, 3) := by decide +kernel
theorem dX1_has_6 : decode cX1_has 6 = .ok (.iconst 1, 1) := by decide +kernel
theorem dX1_has_7 : decode cX1_has 7 = .ok (.isub, 1) := by decide +kernel
theorem dX1_has_8 : decode cX1_has 8 = .ok (.invokestatic 47, 3) := by decide +kernel
theorem dX1_has_11 : decode cX1_has 11 = .ok (.ireturn, 1) := by decide +kernel
theorem dX1_everybody_0 : decode cX1_everybody 0 = .ok (.iconst 1, 1) := by decide +kernel
theorem dX1_everybody_1 : decode cX1_everybody 1 = .ok (.aload_n 0, 1) := by decide +kernel
theorem dX1_everybody_2 : decode cX1_everybody 2 = .ok (.getfield 7, 3) := by decide +kernel
theorem dX1_everybody_5 : decode cX1_everybody 5 = .ok (.ishl, 1) := by decide +kernel
theorem dX1_everybody_6 : decode cX1_everybody 6 = .ok (.iconst 1, 1) := by decide +kernel
theorem dX1_everybody_7 : decode cX1_everybody 7 = .ok (.isub, 1) := by decide +kernel
theorem dX1_everybody_8 : decode cX1_everybody 8 = .ok (.ireturn, 1) := by decide +kernel
set_option maxRecDepth 20000 in
theorem ggX1_nerve_X0_at : GoodIn wsX1_nerve wsX0_at := goodIn_r _ [5] (by decide +kernel) (by decide +kernel)
set_option maxRecDepth 20000 in
theorem gX1_nerve_X0_at : GoodIn wsX1_nerve (va_wsS RX1 53 yX0_at wsX0_at) := goodIn_app (goodIn_of _ (by decide +kernel)) ggX1_nerve_X0_at
theorem dX1_nerve_0 : decode cX1_nerve 0 = .ok (.aload_n 0, 1) := by decide +kernel
theorem dX1_nerve_1 : decode cX1_nerve 1 = .ok (.getfield 19, 3) := by decide +kernel
theorem dX1_nerve_4 : decode cX1_nerve 4 = .ok (.iload_n 1, 1) := by decide +kernel
theorem dX1_nerve_5 : decode cX1_nerve 5 = .ok (.invokestatic 53, 3) := by decide +kernel
theorem dX1_nerve_8 : decode cX1_nerve 8 = .ok (.ireturn, 1) := by decide +kernel
set_option maxRecDepth 20000 in
theorem ggX1_kind_X0_at : GoodIn wsX1_kind wsX0_at := goodIn_r _ [5] (by decide +kernel) (by decide +kernel)
set_option maxRecDepth 20000 in
theorem gX1_kind_X0_at : GoodIn wsX1_kind (va_wsS RX1 53 yX0_at wsX0_at) := goodIn_app (goodIn_of _ (by decide +kernel)) ggX1_kind_X0_at
theorem dX1_kind_0 : decode cX1_kind 0 = .ok (.aload_n 0, 1) := by decide +kernel
theorem dX1_kind_1 : decode cX1_kind 1 = .ok (.getfield 22, 3) := by decide +kernel
theorem dX1_kind_4 : decode cX1_kind 4 = .ok (.iload_n 1, 1) := by decide +kernel
theorem dX1_kind_5 : decode cX1_kind 5 = .ok (.invokestatic 53, 3) := by decide +kernel
theorem dX1_kind_8 : decode cX1_kind 8 = .ok (.ireturn, 1) := by decide +kernel
theorem dX2_init_0 : decode cX2_init 0 = .ok (.aload_n 0, 1) := by decide +kernel
theorem dX2_init_1 : decode cX2_init 1 = .ok (.invokespecial 3, 3) := by decide +kernel
theorem dX2_init_4 : decode cX2_init 4 = .ok (.aload_n 0, 1) := by decide +kernel
theorem dX2_init_5 : decode cX2_init 5 = .ok (.bipush 32, 2) := by decide +kernel
theorem dX2_init_7 : decode cX2_init 7 = .ok (.newarray .int, 2) := by decide +kernel
theorem dX2_init_9 : decode cX2_init 9 = .ok (.putfield 9, 3) := by decide +kernel
theorem dX2_init_12 : decode cX2_init 12 = .ok (.aload_n 0, 1) := by decide +kernel
theorem dX2_init_13 : decode cX2_init 13 = .ok (.iconst 0, 1) := by decide +kernel
theorem dX2_init_14 : decode cX2_init 14 = .ok (.putfield 15, 3) := by decide +kernel
theorem dX2_init_17 : decode cX2_init 17 = .ok (.return_, 1) := by decide +kernel
theorem dX2_length_0 : decode cX2_length 0 = .ok (.aload_n 0, 1) := by decide +kernel
theorem dX2_length_1 : decode cX2_length 1 = .ok (.getfield 15, 3) := by decide +kernel
theorem dX2_length_4 : decode cX2_length 4 = .ok (.ireturn, 1) := by decide +kernel
theorem dX2_append_0 : decode cX2_append 0 = .ok (.aload_n 0, 1) := by decide +kernel
theorem dX2_append_1 : decode cX2_append 1 = .ok (.getfield 15, 3) := by decide +kernel
theorem dX2_append_4 : decode cX2_append 4 = .ok (.ifCond .lt 15, 3) := by decide +kernel
theorem dX2_append_7 : decode cX2_append 7 = .ok (.aload_n 0, 1) := by decide +kernel
theorem dX2_append_8 : decode cX2_append 8 = .ok (.getfield 15, 3) := by decide +kernel
theorem dX2_append_11 : decode cX2_append 11 = .ok (.aload_n 0, 1) := by decide +kernel
theorem dX2_append_12 : decode cX2_append 12 = .ok (.getfield 9, 3) := by decide +kernel
theorem dX2_append_15 : decode cX2_append 15 = .ok (.arraylength, 1) := by decide +kernel
theorem dX2_append_16 : decode cX2_append 16 = .ok (.if_icmp .lt 5, 3) := by decide +kernel
theorem dX2_append_19 : decode cX2_append 19 = .ok (.iconst 0, 1) := by decide +kernel
theorem dX2_append_20 : decode cX2_append 20 = .ok (.ireturn, 1) := by decide +kernel
theorem dX2_append_21 : decode cX2_append 21 = .ok (.aload_n 0, 1) := by decide +kernel
theorem dX2_append_22 : decode cX2_append 22 = .ok (.getfield 9, 3) := by decide +kernel
theorem dX2_append_25 : decode cX2_append 25 = .ok (.aload_n 0, 1) := by decide +kernel
theorem dX2_append_26 : decode cX2_append 26 = .ok (.getfield 15, 3) := by decide +kernel
theorem dX2_append_29 : decode cX2_append 29 = .ok (.iload_n 1, 1) := by decide +kernel
theorem dX2_append_30 : decode cX2_append 30 = .ok (.iastore, 1) := by decide +kernel
theorem dX2_append_31 : decode cX2_append 31 = .ok (.aload_n 0, 1) := by decide +kernel
theorem dX2_append_32 : decode cX2_append 32 = .ok (.dup, 1) := by decide +kernel
theorem dX2_append_33 : decode cX2_append 33 = .ok (.getfield 15, 3) := by decide +kernel
theorem dX2_append_36 : decode cX2_append 36 = .ok (.iconst 1, 1) := by decide +kernel
theorem dX2_append_37 : decode cX2_append 37 = .ok (.iadd, 1) := by decide +kernel
theorem dX2_append_38 : decode cX2_append 38 = .ok (.putfield 15, 3) := by decide +kernel
theorem dX2_append_41 : decode cX2_append 41 = .ok (.iconst 1, 1) := by decide +kernel
theorem dX2_append_42 : decode cX2_append 42 = .ok (.ireturn, 1) := by decide +kernel
theorem dX2_clear_0 : decode cX2_clear 0 = .ok (.aload_n 0, 1) := by decide +kernel
theorem dX2_clear_1 : decode cX2_clear 1 = .ok (.iconst 0, 1) := by decide +kernel
theorem dX2_clear_2 : decode cX2_clear 2 = .ok (.putfield 15, 3) := by decide +kernel
theorem dX2_clear_5 : decode cX2_clear 5 = .ok (.return_, 1) := by decide +kernel
theorem dX2_parts_0 : decode cX2_parts 0 = .ok (.aload_n 0, 1) := by decide +kernel
theorem dX2_parts_1 : decode cX2_parts 1 = .ok (.getfield 15, 3) := by decide +kernel
theorem dX2_parts_4 : decode cX2_parts 4 = .ok (.iconst 3, 1) := by decide +kernel
theorem dX2_parts_5 : decode cX2_parts 5 = .ok (.isub, 1) := by decide +kernel
theorem dX2_parts_6 : decode cX2_parts 6 = .ok (.iconst 3, 1) := by decide +kernel
theorem dX2_parts_7 : decode cX2_parts 7 = .ok (.idiv, 1) := by decide +kernel
theorem dX2_parts_8 : decode cX2_parts 8 = .ok (.ireturn, 1) := by decide +kernel
set_option maxRecDepth 20000 in
theorem ggX2_figure_X2_byteAt : GoodIn wsX2_figure wsX2_byteAt := goodIn_r _ [5, 6, 7, 8] (by decide +kernel) (by decide +kernel)
set_option maxRecDepth 20000 in
theorem gX2_figure_X2_byteAt : GoodIn wsX2_figure (wsV RX2 19 RX2 yX2_byteAt wsX2_byteAt) := goodIn_app (goodIn_of _ (by decide +kernel)) ggX2_figure_X2_byteAt
theorem dX2_figure_0 : decode cX2_figure 0 = .ok (.aload_n 0, 1) := by decide +kernel
theorem dX2_figure_1 : decode cX2_figure 1 = .ok (.iload_n 1, 1) := by decide +kernel
theorem dX2_figure_2 : decode cX2_figure 2 = .ok (.invokevirtual 19, 3) := by decide +kernel
theorem dX2_figure_5 : decode cX2_figure 5 = .ok (.bipush 48, 2) := by decide +kernel
theorem dX2_figure_7 : decode cX2_figure 7 = .ok (.isub, 1) := by decide +kernel
theorem dX2_figure_8 : decode cX2_figure 8 = .ok (.ireturn, 1) := by decide +kernel
set_option maxRecDepth 20000 in
theorem ggX2_nerve_X2_figure : GoodIn wsX2_nerve wsX2_figure := goodIn_r _ [5, 6, 7, 8, 4, 9, 10, 11, 12] (by decide +kernel) (by decide +kernel)
set_option maxRecDepth 20000 in
theorem gX2_nerve_X2_figure : GoodIn wsX2_nerve (wsV RX2 23 RX2 yX2_figure wsX2_figure) := goodIn_app (goodIn_of _ (by decide +kernel)) ggX2_nerve_X2_figure
theorem dX2_nerve_0 : decode cX2_nerve 0 = .ok (.aload_n 0, 1) := by decide +kernel
theorem dX2_nerve_1 : decode cX2_nerve 1 = .ok (.iconst 3, 1) := by decide +kernel
theorem dX2_nerve_2 : decode cX2_nerve 2 = .ok (.iload_n 1, 1) := by decide +kernel
theorem dX2_nerve_3 : decode cX2_nerve 3 = .ok (.iconst 3, 1) := by decide +kernel
theorem dX2_nerve_4 : decode cX2_nerve 4 = .ok (.imul, 1) := by decide +kernel
theorem dX2_nerve_5 : decode cX2_nerve 5 = .ok (.iadd, 1) := by decide +kernel
theorem dX2_nerve_6 : decode cX2_nerve 6 = .ok (.iconst 1, 1) := by decide +kernel
theorem dX2_nerve_7 : decode cX2_nerve 7 = .ok (.iadd, 1) := by decide +kernel
theorem dX2_nerve_8 : decode cX2_nerve 8 = .ok (.invokevirtual 23, 3) := by decide +kernel
theorem dX2_nerve_11 : decode cX2_nerve 11 = .ok (.ireturn, 1) := by decide +kernel
set_option maxRecDepth 20000 in
theorem ggX2_kind_X2_figure : GoodIn wsX2_kind wsX2_figure := goodIn_r _ [5, 6, 7, 8, 4, 9, 10, 11, 12] (by decide +kernel) (by decide +kernel)
set_option maxRecDepth 20000 in
theorem gX2_kind_X2_figure : GoodIn wsX2_kind (wsV RX2 23 RX2 yX2_figure wsX2_figure) := goodIn_app (goodIn_of _ (by decide +kernel)) ggX2_kind_X2_figure
theorem dX2_kind_0 : decode cX2_kind 0 = .ok (.aload_n 0, 1) := by decide +kernel
theorem dX2_kind_1 : decode cX2_kind 1 = .ok (.iconst 3, 1) := by decide +kernel
theorem dX2_kind_2 : decode cX2_kind 2 = .ok (.iload_n 1, 1) := by decide +kernel
theorem dX2_kind_3 : decode cX2_kind 3 = .ok (.iconst 3, 1) := by decide +kernel
theorem dX2_kind_4 : decode cX2_kind 4 = .ok (.imul, 1) := by decide +kernel
theorem dX2_kind_5 : decode cX2_kind 5 = .ok (.iadd, 1) := by decide +kernel
theorem dX2_kind_6 : decode cX2_kind 6 = .ok (.iconst 2, 1) := by decide +kernel
theorem dX2_kind_7 : decode cX2_kind 7 = .ok (.iadd, 1) := by decide +kernel
theorem dX2_kind_8 : decode cX2_kind 8 = .ok (.invokevirtual 23, 3) := by decide +kernel
theorem dX2_kind_11 : decode cX2_kind 11 = .ok (.ireturn, 1) := by decide +kernel
set_option maxRecDepth 20000 in
theorem ggX2_firstFault_X2_fits : GoodIn wsX2_firstFault wsX2_fits := goodIn_r _ [6, 7, 8, 9, 5, 10, 11, 12, 13, 14, 15, 16, 17, 18, 19, 20, 21, 22, 23, 24] (by decide +kernel) (by decide +kernel)
set_option maxRecDepth 20000 in
theorem gX2_firstFault_X2_fits : GoodIn wsX2_firstFault (wsV RX2 26 RX2 yX2_fits wsX2_fits) := goodIn_app (goodIn_of _ (by decide +kernel)) ggX2_firstFault_X2_fits
theorem dX2_firstFault_0 : decode cX2_firstFault 0 = .ok (.iconst 0, 1) := by decide +kernel
theorem dX2_firstFault_1 : decode cX2_firstFault 1 = .ok (.istore_n 1, 1) := by decide +kernel
theorem dX2_firstFault_2 : decode cX2_firstFault 2 = .ok (.iload_n 1, 1) := by decide +kernel
theorem dX2_firstFault_3 : decode cX2_firstFault 3 = .ok (.aload_n 0, 1) := by decide +kernel
theorem dX2_firstFault_4 : decode cX2_firstFault 4 = .ok (.getfield 15, 3) := by decide +kernel
theorem dX2_firstFault_7 : decode cX2_firstFault 7 = .ok (.if_icmp .ge 19, 3) := by decide +kernel
theorem dX2_firstFault_10 : decode cX2_firstFault 10 = .ok (.aload_n 0, 1) := by decide +kernel
theorem dX2_firstFault_11 : decode cX2_firstFault 11 = .ok (.iload_n 1, 1) := by decide +kernel
theorem dX2_firstFault_12 : decode cX2_firstFault 12 = .ok (.invokevirtual 26, 3) := by decide +kernel
theorem dX2_firstFault_15 : decode cX2_firstFault 15 = .ok (.ifCond .ne 5, 3) := by decide +kernel
theorem dX2_firstFault_18 : decode cX2_firstFault 18 = .ok (.iload_n 1, 1) := by decide +kernel
theorem dX2_firstFault_19 : decode cX2_firstFault 19 = .ok (.ireturn, 1) := by decide +kernel
theorem dX2_firstFault_20 : decode cX2_firstFault 20 = .ok (.iinc 1 1, 3) := by decide +kernel
theorem dX2_firstFault_23 : decode cX2_firstFault 23 = .ok (.goto (-21), 3) := by decide +kernel
theorem dX2_firstFault_26 : decode cX2_firstFault 26 = .ok (.aload_n 0, 1) := by decide +kernel
theorem dX2_firstFault_27 : decode cX2_firstFault 27 = .ok (.getfield 15, 3) := by decide +kernel
theorem dX2_firstFault_30 : decode cX2_firstFault 30 = .ok (.iconst 3, 1) := by decide +kernel
theorem dX2_firstFault_31 : decode cX2_firstFault 31 = .ok (.if_icmp .lt 18, 3) := by decide +kernel
theorem dX2_firstFault_34 : decode cX2_firstFault 34 = .ok (.aload_n 0, 1) := by decide +kernel
theorem dX2_firstFault_35 : decode cX2_firstFault 35 = .ok (.getfield 15, 3) := by decide +kernel
theorem dX2_firstFault_38 : decode cX2_firstFault 38 = .ok (.iconst 3, 1) := by decide +kernel
theorem dX2_firstFault_39 : decode cX2_firstFault 39 = .ok (.isub, 1) := by decide +kernel
theorem dX2_firstFault_40 : decode cX2_firstFault 40 = .ok (.iconst 3, 1) := by decide +kernel
theorem dX2_firstFault_41 : decode cX2_firstFault 41 = .ok (.irem, 1) := by decide +kernel
theorem dX2_firstFault_42 : decode cX2_firstFault 42 = .ok (.ifCond .ne 7, 3) := by decide +kernel
theorem dX2_firstFault_45 : decode cX2_firstFault 45 = .ok (.iconst 1, 1) := by decide +kernel
theorem dX2_firstFault_46 : decode cX2_firstFault 46 = .ok (.goto 4, 3) := by decide +kernel
theorem dX2_firstFault_49 : decode cX2_firstFault 49 = .ok (.iconst 0, 1) := by decide +kernel
theorem dX2_firstFault_50 : decode cX2_firstFault 50 = .ok (.istore_n 1, 1) := by decide +kernel
theorem dX2_firstFault_51 : decode cX2_firstFault 51 = .ok (.iload_n 1, 1) := by decide +kernel
theorem dX2_firstFault_52 : decode cX2_firstFault 52 = .ok (.ifCond .eq 8, 3) := by decide +kernel
theorem dX2_firstFault_55 : decode cX2_firstFault 55 = .ok (.bipush (-9), 2) := by decide +kernel
theorem dX2_firstFault_57 : decode cX2_firstFault 57 = .ok (.goto 7, 3) := by decide +kernel
theorem dX2_firstFault_60 : decode cX2_firstFault 60 = .ok (.aload_n 0, 1) := by decide +kernel
theorem dX2_firstFault_61 : decode cX2_firstFault 61 = .ok (.getfield 15, 3) := by decide +kernel
theorem dX2_firstFault_64 : decode cX2_firstFault 64 = .ok (.ireturn, 1) := by decide +kernel
set_option maxRecDepth 20000 in
theorem ggX2_fits_X2_byteAt : GoodIn wsX2_fits wsX2_byteAt := goodIn_r _ [5, 6, 18, 19] (by decide +kernel) (by decide +kernel)
set_option maxRecDepth 20000 in
theorem gX2_fits_X2_byteAt : GoodIn wsX2_fits (wsV RX2 19 RX2 yX2_byteAt wsX2_byteAt) := goodIn_app (goodIn_of _ (by decide +kernel)) ggX2_fits_X2_byteAt
set_option maxRecDepth 20000 in
theorem ggX2_fits_X2_figure : GoodIn wsX2_fits wsX2_figure := goodIn_r _ [10, 1, 2, 3, 4, 5, 6, 18, 19] (by decide +kernel) (by decide +kernel)
set_option maxRecDepth 20000 in
theorem gX2_fits_X2_figure : GoodIn wsX2_fits (wsV RX2 23 RX2 yX2_figure wsX2_figure) := goodIn_app (goodIn_of _ (by decide +kernel)) ggX2_fits_X2_figure
set_option maxRecDepth 20000 in
theorem ggX2_fits_X4_within : GoodIn wsX2_fits wsX4_within := goodIn_r _ [13] (by decide +kernel) (by decide +kernel)
set_option maxRecDepth 20000 in
theorem gX2_fits_X4_within_n30 : GoodIn wsX2_fits (wsX4_within) := ggX2_fits_X4_within
set_option maxRecDepth 20000 in
theorem ggX2_fits_X2_fitsPart : GoodIn wsX2_fits wsX2_fitsPart := goodIn_r _ [17, 1, 2, 3, 4, 5, 6, 7, 8, 9, 10, 11, 12, 13, 18, 19] (by decide +kernel) (by decide +kernel)
set_option maxRecDepth 20000 in
theorem gX2_fits_X2_fitsPart : GoodIn wsX2_fits (wsV RX2 34 RX2 yX2_fitsPart wsX2_fitsPart) := goodIn_app (goodIn_of _ (by decide +kernel)) ggX2_fits_X2_fitsPart
theorem dX2_fits_0 : decode cX2_fits 0 = .ok (.iload_n 1, 1) := by decide +kernel
theorem dX2_fits_1 : decode cX2_fits 1 = .ok (.tableswitch 67 0 2 #[27, 43, 55], 27) := by decide +kernel
theorem dX2_fits_28 : decode cX2_fits 28 = .ok (.aload_n 0, 1) := by decide +kernel
theorem dX2_fits_29 : decode cX2_fits 29 = .ok (.iload_n 1, 1) := by decide +kernel
theorem dX2_fits_30 : decode cX2_fits 30 = .ok (.invokevirtual 19, 3) := by decide +kernel
theorem dX2_fits_33 : decode cX2_fits 33 = .ok (.bipush 71, 2) := by decide +kernel
theorem dX2_fits_35 : decode cX2_fits 35 = .ok (.if_icmp .ne 7, 3) := by decide +kernel
theorem dX2_fits_38 : decode cX2_fits 38 = .ok (.iconst 1, 1) := by decide +kernel
theorem dX2_fits_39 : decode cX2_fits 39 = .ok (.goto 4, 3) := by decide +kernel
theorem dX2_fits_42 : decode cX2_fits 42 = .ok (.iconst 0, 1) := by decide +kernel
theorem dX2_fits_43 : decode cX2_fits 43 = .ok (.ireturn, 1) := by decide +kernel
theorem dX2_fits_44 : decode cX2_fits 44 = .ok (.aload_n 0, 1) := by decide +kernel
theorem dX2_fits_45 : decode cX2_fits 45 = .ok (.iload_n 1, 1) := by decide +kernel
theorem dX2_fits_46 : decode cX2_fits 46 = .ok (.invokevirtual 23, 3) := by decide +kernel
theorem dX2_fits_49 : decode cX2_fits 49 = .ok (.iconst 1, 1) := by decide +kernel
theorem dX2_fits_50 : decode cX2_fits 50 = .ok (.bipush 9, 2) := by decide +kernel
theorem dX2_fits_52 : decode cX2_fits 52 = .ok (.invokestatic 30, 3) := by decide +kernel
theorem dX2_fits_55 : decode cX2_fits 55 = .ok (.ireturn, 1) := by decide +kernel
theorem dX2_fits_56 : decode cX2_fits 56 = .ok (.aload_n 0, 1) := by decide +kernel
theorem dX2_fits_57 : decode cX2_fits 57 = .ok (.iload_n 1, 1) := by decide +kernel
theorem dX2_fits_58 : decode cX2_fits 58 = .ok (.invokevirtual 23, 3) := by decide +kernel
theorem dX2_fits_61 : decode cX2_fits 61 = .ok (.iconst 0, 1) := by decide +kernel
theorem dX2_fits_62 : decode cX2_fits 62 = .ok (.bipush 9, 2) := by decide +kernel
theorem dX2_fits_64 : decode cX2_fits 64 = .ok (.invokestatic 30, 3) := by decide +kernel
theorem dX2_fits_67 : decode cX2_fits 67 = .ok (.ireturn, 1) := by decide +kernel
theorem dX2_fits_68 : decode cX2_fits 68 = .ok (.iload_n 1, 1) := by decide +kernel
theorem dX2_fits_69 : decode cX2_fits 69 = .ok (.bipush 18, 2) := by decide +kernel
theorem dX2_fits_71 : decode cX2_fits 71 = .ok (.if_icmp .ge 15, 3) := by decide +kernel
theorem dX2_fits_74 : decode cX2_fits 74 = .ok (.aload_n 0, 1) := by decide +kernel
theorem dX2_fits_75 : decode cX2_fits 75 = .ok (.iload_n 1, 1) := by decide +kernel
theorem dX2_fits_76 : decode cX2_fits 76 = .ok (.invokevirtual 34, 3) := by decide +kernel
theorem dX2_fits_79 : decode cX2_fits 79 = .ok (.ifCond .eq 7, 3) := by decide +kernel
theorem dX2_fits_82 : decode cX2_fits 82 = .ok (.iconst 1, 1) := by decide +kernel
theorem dX2_fits_83 : decode cX2_fits 83 = .ok (.goto 4, 3) := by decide +kernel
theorem dX2_fits_86 : decode cX2_fits 86 = .ok (.iconst 0, 1) := by decide +kernel
theorem dX2_fits_87 : decode cX2_fits 87 = .ok (.ireturn, 1) := by decide +kernel
set_option maxRecDepth 20000 in
theorem ggX2_fitsPart_X2_byteAt : GoodIn wsX2_fitsPart wsX2_byteAt := goodIn_r _ [5, 6, 14, 15] (by decide +kernel) (by decide +kernel)
set_option maxRecDepth 20000 in
theorem gX2_fitsPart_X2_byteAt : GoodIn wsX2_fitsPart (wsV RX2 19 RX2 yX2_byteAt wsX2_byteAt) := goodIn_app (goodIn_of _ (by decide +kernel)) ggX2_fitsPart_X2_byteAt
set_option maxRecDepth 20000 in
theorem ggX2_fitsPart_X2_figure : GoodIn wsX2_fitsPart wsX2_figure := goodIn_r _ [10, 1, 2, 3, 4, 5, 6, 14, 15] (by decide +kernel) (by decide +kernel)
set_option maxRecDepth 20000 in
theorem gX2_fitsPart_X2_figure : GoodIn wsX2_fitsPart (wsV RX2 23 RX2 yX2_figure wsX2_figure) := goodIn_app (goodIn_of _ (by decide +kernel)) ggX2_fitsPart_X2_figure
set_option maxRecDepth 20000 in
theorem ggX2_fitsPart_X4_within : GoodIn wsX2_fitsPart wsX4_within := goodIn_r _ [13] (by decide +kernel) (by decide +kernel)
set_option maxRecDepth 20000 in
theorem gX2_fitsPart_X4_within_n30 : GoodIn wsX2_fitsPart (wsX4_within) := ggX2_fitsPart_X4_within
theorem dX2_fitsPart_0 : decode cX2_fitsPart 0 = .ok (.iload_n 1, 1) := by decide +kernel
theorem dX2_fitsPart_1 : decode cX2_fitsPart 1 = .ok (.iconst 3, 1) := by decide +kernel
theorem dX2_fitsPart_2 : decode cX2_fitsPart 2 = .ok (.isub, 1) := by decide +kernel
theorem dX2_fitsPart_3 : decode cX2_fitsPart 3 = .ok (.iconst 3, 1) := by decide +kernel
theorem dX2_fitsPart_4 : decode cX2_fitsPart 4 = .ok (.irem, 1) := by decide +kernel
theorem dX2_fitsPart_5 : decode cX2_fitsPart 5 = .ok (.lookupswitch 54 #[(0, 27), (1, 43)], 27) := by decide +kernel
theorem dX2_fitsPart_32 : decode cX2_fitsPart 32 = .ok (.aload_n 0, 1) := by decide +kernel
theorem dX2_fitsPart_33 : decode cX2_fitsPart 33 = .ok (.iload_n 1, 1) := by decide +kernel
theorem dX2_fitsPart_34 : decode cX2_fitsPart 34 = .ok (.invokevirtual 19, 3) := by decide +kernel
theorem dX2_fitsPart_37 : decode cX2_fitsPart 37 = .ok (.bipush 87, 2) := by decide +kernel
theorem dX2_fitsPart_39 : decode cX2_fitsPart 39 = .ok (.if_icmp .ne 7, 3) := by decide +kernel
theorem dX2_fitsPart_42 : decode cX2_fitsPart 42 = .ok (.iconst 1, 1) := by decide +kernel
theorem dX2_fitsPart_43 : decode cX2_fitsPart 43 = .ok (.goto 4, 3) := by decide +kernel
theorem dX2_fitsPart_46 : decode cX2_fitsPart 46 = .ok (.iconst 0, 1) := by decide +kernel
theorem dX2_fitsPart_47 : decode cX2_fitsPart 47 = .ok (.ireturn, 1) := by decide +kernel
theorem dX2_fitsPart_48 : decode cX2_fitsPart 48 = .ok (.aload_n 0, 1) := by decide +kernel
theorem dX2_fitsPart_49 : decode cX2_fitsPart 49 = .ok (.iload_n 1, 1) := by decide +kernel
theorem dX2_fitsPart_50 : decode cX2_fitsPart 50 = .ok (.invokevirtual 23, 3) := by decide +kernel
theorem dX2_fitsPart_53 : decode cX2_fitsPart 53 = .ok (.iconst 0, 1) := by decide +kernel
theorem dX2_fitsPart_54 : decode cX2_fitsPart 54 = .ok (.iconst 5, 1) := by decide +kernel
theorem dX2_fitsPart_55 : decode cX2_fitsPart 55 = .ok (.invokestatic 30, 3) := by decide +kernel
theorem dX2_fitsPart_58 : decode cX2_fitsPart 58 = .ok (.ireturn, 1) := by decide +kernel
theorem dX2_fitsPart_59 : decode cX2_fitsPart 59 = .ok (.aload_n 0, 1) := by decide +kernel
theorem dX2_fitsPart_60 : decode cX2_fitsPart 60 = .ok (.iload_n 1, 1) := by decide +kernel
theorem dX2_fitsPart_61 : decode cX2_fitsPart 61 = .ok (.invokevirtual 23, 3) := by decide +kernel
theorem dX2_fitsPart_64 : decode cX2_fitsPart 64 = .ok (.iconst 0, 1) := by decide +kernel
theorem dX2_fitsPart_65 : decode cX2_fitsPart 65 = .ok (.iconst 3, 1) := by decide +kernel
theorem dX2_fitsPart_66 : decode cX2_fitsPart 66 = .ok (.invokestatic 30, 3) := by decide +kernel
theorem dX2_fitsPart_69 : decode cX2_fitsPart 69 = .ok (.ireturn, 1) := by decide +kernel
theorem dX2_byteAt_0 : decode cX2_byteAt 0 = .ok (.iload_n 1, 1) := by decide +kernel
theorem dX2_byteAt_1 : decode cX2_byteAt 1 = .ok (.ifCond .lt 21, 3) := by decide +kernel
theorem dX2_byteAt_4 : decode cX2_byteAt 4 = .ok (.iload_n 1, 1) := by decide +kernel
theorem dX2_byteAt_5 : decode cX2_byteAt 5 = .ok (.aload_n 0, 1) := by decide +kernel
theorem dX2_byteAt_6 : decode cX2_byteAt 6 = .ok (.getfield 9, 3) := by decide +kernel
theorem dX2_byteAt_9 : decode cX2_byteAt 9 = .ok (.arraylength, 1) := by decide +kernel
theorem dX2_byteAt_10 : decode cX2_byteAt 10 = .ok (.if_icmp .ge 12, 3) := by decide +kernel
theorem dX2_byteAt_13 : decode cX2_byteAt 13 = .ok (.aload_n 0, 1) := by decide +kernel
theorem dX2_byteAt_14 : decode cX2_byteAt 14 = .ok (.getfield 9, 3) := by decide +kernel
theorem dX2_byteAt_17 : decode cX2_byteAt 17 = .ok (.iload_n 1, 1) := by decide +kernel
theorem dX2_byteAt_18 : decode cX2_byteAt 18 = .ok (.iaload, 1) := by decide +kernel
theorem dX2_byteAt_19 : decode cX2_byteAt 19 = .ok (.goto 4, 3) := by decide +kernel
theorem dX2_byteAt_22 : decode cX2_byteAt 22 = .ok (.iconst 0, 1) := by decide +kernel
theorem dX2_byteAt_23 : decode cX2_byteAt 23 = .ok (.ireturn, 1) := by decide +kernel
theorem dX3_init_0 : decode cX3_init 0 = .ok (.aload_n 0, 1) := by decide +kernel
theorem dX3_init_1 : decode cX3_init 1 = .ok (.invokespecial 5, 3) := by decide +kernel
theorem dX3_init_4 : decode cX3_init 4 = .ok (.aload_n 0, 1) := by decide +kernel
theorem dX3_init_5 : decode cX3_init 5 = .ok (.iconst 0, 1) := by decide +kernel
theorem dX3_init_6 : decode cX3_init 6 = .ok (.putfield 11, 3) := by decide +kernel
theorem dX3_init_9 : decode cX3_init 9 = .ok (.aload_n 0, 1) := by decide +kernel
theorem dX3_init_10 : decode cX3_init 10 = .ok (.iconst 0, 1) := by decide +kernel
theorem dX3_init_11 : decode cX3_init 11 = .ok (.putfield 15, 3) := by decide +kernel
theorem dX3_init_14 : decode cX3_init 14 = .ok (.aload_n 0, 1) := by decide +kernel
theorem dX3_init_15 : decode cX3_init 15 = .ok (.iconst 0, 1) := by decide +kernel
theorem dX3_init_16 : decode cX3_init 16 = .ok (.putfield 18, 3) := by decide +kernel
theorem dX3_init_19 : decode cX3_init 19 = .ok (.aload_n 0, 1) := by decide +kernel
theorem dX3_init_20 : decode cX3_init 20 = .ok (.iconst 0, 1) := by decide +kernel
theorem dX3_init_21 : decode cX3_init 21 = .ok (.putfield 21, 3) := by decide +kernel
theorem dX3_init_24 : decode cX3_init 24 = .ok (.aload_n 0, 1) := by decide +kernel
theorem dX3_init_25 : decode cX3_init 25 = .ok (.aload_n 1, 1) := by decide +kernel
theorem dX3_init_26 : decode cX3_init 26 = .ok (.putfield 24, 3) := by decide +kernel
theorem dX3_init_29 : decode cX3_init 29 = .ok (.return_, 1) := by decide +kernel
theorem dX3_row_0 : decode cX3_row 0 = .ok (.aload_n 0, 1) := by decide +kernel
theorem dX3_row_1 : decode cX3_row 1 = .ok (.getfield 11, 3) := by decide +kernel
theorem dX3_row_4 : decode cX3_row 4 = .ok (.ireturn, 1) := by decide +kernel
theorem dX3_place_0 : decode cX3_place 0 = .ok (.aload_n 0, 1) := by decide +kernel
theorem dX3_place_1 : decode cX3_place 1 = .ok (.getfield 18, 3) := by decide +kernel
theorem dX3_place_4 : decode cX3_place 4 = .ok (.ireturn, 1) := by decide +kernel
set_option maxRecDepth 20000 in
theorem ggX3_size_X0_size : GoodIn wsX3_size wsX0_size := goodIn_r _ [5, 6, 7, 4, 8] (by decide +kernel) (by decide +kernel)
set_option maxRecDepth 20000 in
theorem gX3_size_X0_size : GoodIn wsX3_size (va_wsS RX3 28 yX0_size wsX0_size) := goodIn_app (goodIn_of _ (by decide +kernel)) ggX3_size_X0_size
theorem dX3_size_0 : decode cX3_size 0 = .ok (.aload_n 0, 1) := by decide +kernel
theorem dX3_size_1 : decode cX3_size 1 = .ok (.getfield 11, 3) := by decide +kernel
theorem dX3_size_4 : decode cX3_size 4 = .ok (.invokestatic 28, 3) := by decide +kernel
theorem dX3_size_7 : decode cX3_size 7 = .ok (.ireturn, 1) := by decide +kernel
set_option maxRecDepth 20000 in
theorem ggX3_members_X0_members : GoodIn wsX3_members wsX0_members := goodIn_r _ [5, 6, 7, 4, 8, 9, 10, 11] (by decide +kernel) (by decide +kernel)
set_option maxRecDepth 20000 in
theorem gX3_members_X0_members : GoodIn wsX3_members (va_wsS RX3 34 yX0_members wsX0_members) := goodIn_app (goodIn_of _ (by decide +kernel)) ggX3_members_X0_members
theorem dX3_members_0 : decode cX3_members 0 = .ok (.aload_n 0, 1) := by decide +kernel
theorem dX3_members_1 : decode cX3_members 1 = .ok (.getfield 11, 3) := by decide +kernel
theorem dX3_members_4 : decode cX3_members 4 = .ok (.invokestatic 34, 3) := by decide +kernel
theorem dX3_members_7 : decode cX3_members 7 = .ok (.ireturn, 1) := by decide +kernel
set_option maxRecDepth 20000 in
theorem ggX3_isOut_X1_light : GoodIn wsX3_isOut wsX1_light := goodIn_r _ [7, 8, 14, 15, 16, 17, 18] (by decide +kernel) (by decide +kernel)
set_option maxRecDepth 20000 in
theorem gX3_isOut_X1_light : GoodIn wsX3_isOut (wsV RX3 37 RX1 yX1_light wsX1_light) := goodIn_app (goodIn_of _ (by decide +kernel)) ggX3_isOut_X1_light
theorem dX3_isOut_0 : decode cX3_isOut 0 = .ok (.aload_n 0, 1) := by decide +kernel
theorem dX3_isOut_1 : decode cX3_isOut 1 = .ok (.getfield 18, 3) := by decide +kernel
theorem dX3_isOut_4 : decode cX3_isOut 4 = .ok (.aload_n 0, 1) := by decide +kernel
theorem dX3_isOut_5 : decode cX3_isOut 5 = .ok (.getfield 24, 3) := by decide +kernel
theorem dX3_isOut_8 : decode cX3_isOut 8 = .ok (.invokevirtual 37, 3) := by decide +kernel
theorem dX3_isOut_11 : decode cX3_isOut 11 = .ok (.if_icmp .lt 7, 3) := by decide +kernel
theorem dX3_isOut_14 : decode cX3_isOut 14 = .ok (.iconst 1, 1) := by decide +kernel
theorem dX3_isOut_15 : decode cX3_isOut 15 = .ok (.goto 4, 3) := by decide +kernel
theorem dX3_isOut_18 : decode cX3_isOut 18 = .ok (.iconst 0, 1) := by decide +kernel
theorem dX3_isOut_19 : decode cX3_isOut 19 = .ok (.ireturn, 1) := by decide +kernel
set_option maxRecDepth 20000 in
theorem ggX3_quiet_X0_at : GoodIn wsX3_quiet wsX0_at := goodIn_r _ [5] (by decide +kernel) (by decide +kernel)
set_option maxRecDepth 20000 in
theorem gX3_quiet_X0_at : GoodIn wsX3_quiet (va_wsS RX3 43 yX0_at wsX0_at) := goodIn_app (goodIn_of _ (by decide +kernel)) ggX3_quiet_X0_at
theorem dX3_quiet_0 : decode cX3_quiet 0 = .ok (.aload_n 0, 1) := by decide +kernel
theorem dX3_quiet_1 : decode cX3_quiet 1 = .ok (.getfield 15, 3) := by decide +kernel
theorem dX3_quiet_4 : decode cX3_quiet 4 = .ok (.iload_n 1, 1) := by decide +kernel
theorem dX3_quiet_5 : decode cX3_quiet 5 = .ok (.invokestatic 43, 3) := by decide +kernel
theorem dX3_quiet_8 : decode cX3_quiet 8 = .ok (.ireturn, 1) := by decide +kernel
theorem dX3_turned_0 : decode cX3_turned 0 = .ok (.aload_n 0, 1) := by decide +kernel
theorem dX3_turned_1 : decode cX3_turned 1 = .ok (.getfield 21, 3) := by decide +kernel
theorem dX3_turned_4 : decode cX3_turned 4 = .ok (.ireturn, 1) := by decide +kernel
set_option maxRecDepth 20000 in
theorem ggX3_indexOf_X3_size : GoodIn wsX3_indexOf wsX3_size := goodIn_r _ [5, 6, 7, 8, 9, 10, 11, 12, 13, 19, 20, 21, 22, 23] (by decide +kernel) (by decide +kernel)
set_option maxRecDepth 20000 in
theorem gX3_indexOf_X3_size : GoodIn wsX3_indexOf (wsV RX3 47 RX3 yX3_size wsX3_size) := goodIn_app (goodIn_of _ (by decide +kernel)) ggX3_indexOf_X3_size
set_option maxRecDepth 20000 in
theorem ggX3_indexOf_X3_walkerAt : GoodIn wsX3_indexOf wsX3_walkerAt := goodIn_r _ [17, 6, 18, 12, 9, 13, 19, 20, 21, 22, 23] (by decide +kernel) (by decide +kernel)
set_option maxRecDepth 20000 in
theorem gX3_indexOf_X3_walkerAt : GoodIn wsX3_indexOf (wsV RX3 49 RX3 yX3_walkerAt wsX3_walkerAt) := goodIn_app (goodIn_of _ (by decide +kernel)) ggX3_indexOf_X3_walkerAt
theorem dX3_indexOf_0 : decode cX3_indexOf 0 = .ok (.iconst 0, 1) := by decide +kernel
theorem dX3_indexOf_1 : decode cX3_indexOf 1 = .ok (.istore_n 2, 1) := by decide +kernel
theorem dX3_indexOf_2 : decode cX3_indexOf 2 = .ok (.iload_n 2, 1) := by decide +kernel
theorem dX3_indexOf_3 : decode cX3_indexOf 3 = .ok (.aload_n 0, 1) := by decide +kernel
theorem dX3_indexOf_4 : decode cX3_indexOf 4 = .ok (.invokevirtual 47, 3) := by decide +kernel
theorem dX3_indexOf_7 : decode cX3_indexOf 7 = .ok (.if_icmp .ge 20, 3) := by decide +kernel
theorem dX3_indexOf_10 : decode cX3_indexOf 10 = .ok (.aload_n 0, 1) := by decide +kernel
theorem dX3_indexOf_11 : decode cX3_indexOf 11 = .ok (.iload_n 2, 1) := by decide +kernel
theorem dX3_indexOf_12 : decode cX3_indexOf 12 = .ok (.invokevirtual 49, 3) := by decide +kernel
theorem dX3_indexOf_15 : decode cX3_indexOf 15 = .ok (.iload_n 1, 1) := by decide +kernel
theorem dX3_indexOf_16 : decode cX3_indexOf 16 = .ok (.if_icmp .ne 5, 3) := by decide +kernel
theorem dX3_indexOf_19 : decode cX3_indexOf 19 = .ok (.iload_n 2, 1) := by decide +kernel
theorem dX3_indexOf_20 : decode cX3_indexOf 20 = .ok (.ireturn, 1) := by decide +kernel
theorem dX3_indexOf_21 : decode cX3_indexOf 21 = .ok (.iinc 2 1, 3) := by decide +kernel
theorem dX3_indexOf_24 : decode cX3_indexOf 24 = .ok (.goto (-22), 3) := by decide +kernel
theorem dX3_indexOf_27 : decode cX3_indexOf 27 = .ok (.bipush (-9), 2) := by decide +kernel
theorem dX3_indexOf_29 : decode cX3_indexOf 29 = .ok (.ireturn, 1) := by decide +kernel
set_option maxRecDepth 20000 in
theorem ggX3_behind_X3_indexOf : GoodIn wsX3_behind wsX3_indexOf := goodIn_r _ [5, 6, 7, 8, 4, 9, 10, 11, 12, 13, 14, 15, 16, 17, 18, 19, 20, 21, 22, 23, 24, 25, 26, 27] (by decide +kernel) (by decide +kernel)
set_option maxRecDepth 20000 in
theorem gX3_behind_X3_indexOf : GoodIn wsX3_behind (wsV RX3 52 RX3 yX3_indexOf wsX3_indexOf) := goodIn_app (goodIn_of _ (by decide +kernel)) ggX3_behind_X3_indexOf
set_option maxRecDepth 20000 in
theorem ggX3_behind_X3_size : GoodIn wsX3_behind wsX3_size := goodIn_r _ [9, 10, 11, 12, 13, 14, 15, 16, 17, 23, 24, 25, 26, 27] (by decide +kernel) (by decide +kernel)
set_option maxRecDepth 20000 in
theorem gX3_behind_X3_size : GoodIn wsX3_behind (wsV RX3 47 RX3 yX3_size wsX3_size) := goodIn_app (goodIn_of _ (by decide +kernel)) ggX3_behind_X3_size
set_option maxRecDepth 20000 in
theorem ggX3_behind_X3_walkerAt : GoodIn wsX3_behind wsX3_walkerAt := goodIn_r _ [21, 10, 22, 16, 13, 17, 23, 24, 25, 26, 27] (by decide +kernel) (by decide +kernel)
set_option maxRecDepth 20000 in
theorem gX3_behind_X3_walkerAt : GoodIn wsX3_behind (wsV RX3 49 RX3 yX3_walkerAt wsX3_walkerAt) := goodIn_app (goodIn_of _ (by decide +kernel)) ggX3_behind_X3_walkerAt
theorem dX3_behind_0 : decode cX3_behind 0 = .ok (.aload_n 0, 1) := by decide +kernel
theorem dX3_behind_1 : decode cX3_behind 1 = .ok (.iload_n 1, 1) := by decide +kernel
theorem dX3_behind_2 : decode cX3_behind 2 = .ok (.invokevirtual 52, 3) := by decide +kernel
theorem dX3_behind_5 : decode cX3_behind 5 = .ok (.istore_n 2, 1) := by decide +kernel
theorem dX3_behind_6 : decode cX3_behind 6 = .ok (.iload_n 2, 1) := by decide +kernel
theorem dX3_behind_7 : decode cX3_behind 7 = .ok (.bipush (-9), 2) := by decide +kernel
theorem dX3_behind_9 : decode cX3_behind 9 = .ok (.if_icmp .eq 13, 3) := by decide +kernel
theorem dX3_behind_12 : decode cX3_behind 12 = .ok (.iload_n 2, 1) := by decide +kernel
theorem dX3_behind_13 : decode cX3_behind 13 = .ok (.iconst 1, 1) := by decide +kernel
theorem dX3_behind_14 : decode cX3_behind 14 = .ok (.iadd, 1) := by decide +kernel
theorem dX3_behind_15 : decode cX3_behind 15 = .ok (.aload_n 0, 1) := by decide +kernel
theorem dX3_behind_16 : decode cX3_behind 16 = .ok (.invokevirtual 47, 3) := by decide +kernel
theorem dX3_behind_19 : decode cX3_behind 19 = .ok (.if_icmp .lt 8, 3) := by decide +kernel
theorem dX3_behind_22 : decode cX3_behind 22 = .ok (.bipush (-9), 2) := by decide +kernel
theorem dX3_behind_24 : decode cX3_behind 24 = .ok (.goto 10, 3) := by decide +kernel
theorem dX3_behind_27 : decode cX3_behind 27 = .ok (.aload_n 0, 1) := by decide +kernel
theorem dX3_behind_28 : decode cX3_behind 28 = .ok (.iload_n 2, 1) := by decide +kernel
theorem dX3_behind_29 : decode cX3_behind 29 = .ok (.iconst 1, 1) := by decide +kernel
theorem dX3_behind_30 : decode cX3_behind 30 = .ok (.iadd, 1) := by decide +kernel
theorem dX3_behind_31 : decode cX3_behind 31 = .ok (.invokevirtual 49, 3) := by decide +kernel
theorem dX3_behind_34 : decode cX3_behind 34 = .ok (.ireturn, 1) := by decide +kernel
set_option maxRecDepth 20000 in
theorem ggX3_start_X1_everybody : GoodIn wsX3_start wsX1_everybody := goodIn_r _ [6, 7, 28, 29, 30, 31, 32] (by decide +kernel) (by decide +kernel)
set_option maxRecDepth 20000 in
theorem gX3_start_X1_everybody : GoodIn wsX3_start (wsV RX3 55 RX1 yX1_everybody wsX1_everybody) := goodIn_app (goodIn_of _ (by decide +kernel)) ggX3_start_X1_everybody
set_option maxRecDepth 20000 in
theorem ggX3_start_X0_ascending : GoodIn wsX3_start wsX0_ascending := goodIn_r _ [11, 12, 13, 10, 14] (by decide +kernel) (by decide +kernel)
set_option maxRecDepth 20000 in
theorem gX3_start_X0_ascending : GoodIn wsX3_start (va_wsS RX3 58 yX0_ascending wsX0_ascending) := goodIn_app (goodIn_of _ (by decide +kernel)) ggX3_start_X0_ascending
set_option maxRecDepth 20000 in
theorem ggX3_start_X3_lineUp : GoodIn wsX3_start wsX3_lineUp := goodIn_r _ [19, 20, 21, 22, 23, 24, 25, 26, 27] (by decide +kernel) (by decide +kernel)
set_option maxRecDepth 20000 in
theorem gX3_start_X3_lineUp : GoodIn wsX3_start (wsV RX3 61 RX3 yX3_lineUp wsX3_lineUp) := goodIn_app (goodIn_of _ (by decide +kernel)) ggX3_start_X3_lineUp
theorem dX3_start_0 : decode cX3_start 0 = .ok (.aload_n 0, 1) := by decide +kernel
theorem dX3_start_1 : decode cX3_start 1 = .ok (.aload_n 0, 1) := by decide +kernel
theorem dX3_start_2 : decode cX3_start 2 = .ok (.getfield 24, 3) := by decide +kernel
theorem dX3_start_5 : decode cX3_start 5 = .ok (.invokevirtual 55, 3) := by decide +kernel
theorem dX3_start_8 : decode cX3_start 8 = .ok (.invokestatic 58, 3) := by decide +kernel
theorem dX3_start_11 : decode cX3_start 11 = .ok (.iconst 0, 1) := by decide +kernel
theorem dX3_start_12 : decode cX3_start 12 = .ok (.invokevirtual 61, 3) := by decide +kernel
theorem dX3_start_15 : decode cX3_start 15 = .ok (.return_, 1) := by decide +kernel
theorem dX3_lineUp_0 : decode cX3_lineUp 0 = .ok (.aload_n 0, 1) := by decide +kernel
theorem dX3_lineUp_1 : decode cX3_lineUp 1 = .ok (.iload_n 1, 1) := by decide +kernel
theorem dX3_lineUp_2 : decode cX3_lineUp 2 = .ok (.putfield 11, 3) := by decide +kernel
theorem dX3_lineUp_5 : decode cX3_lineUp 5 = .ok (.aload_n 0, 1) := by decide +kernel
theorem dX3_lineUp_6 : decode cX3_lineUp 6 = .ok (.iconst 0, 1) := by decide +kernel
theorem dX3_lineUp_7 : decode cX3_lineUp 7 = .ok (.putfield 15, 3) := by decide +kernel
theorem dX3_lineUp_10 : decode cX3_lineUp 10 = .ok (.aload_n 0, 1) := by decide +kernel
theorem dX3_lineUp_11 : decode cX3_lineUp 11 = .ok (.iload_n 2, 1) := by decide +kernel
theorem dX3_lineUp_12 : decode cX3_lineUp 12 = .ok (.putfield 18, 3) := by decide +kernel
theorem dX3_lineUp_15 : decode cX3_lineUp 15 = .ok (.return_, 1) := by decide +kernel
theorem dX3_state_0 : decode cX3_state 0 = .ok (.aload_n 0, 1) := by decide +kernel
theorem dX3_state_1 : decode cX3_state 1 = .ok (.getfield 18, 3) := by decide +kernel
theorem dX3_state_4 : decode cX3_state 4 = .ok (.i2l, 1) := by decide +kernel
theorem dX3_state_5 : decode cX3_state 5 = .ok (.bipush 20, 2) := by decide +kernel
theorem dX3_state_7 : decode cX3_state 7 = .ok (.lshl, 1) := by decide +kernel
theorem dX3_state_8 : decode cX3_state 8 = .ok (.aload_n 0, 1) := by decide +kernel
theorem dX3_state_9 : decode cX3_state 9 = .ok (.getfield 15, 3) := by decide +kernel
theorem dX3_state_12 : decode cX3_state 12 = .ok (.i2l, 1) := by decide +kernel
theorem dX3_state_13 : decode cX3_state 13 = .ok (.lor, 1) := by decide +kernel
theorem dX3_state_14 : decode cX3_state 14 = .ok (.bipush 20, 2) := by decide +kernel
theorem dX3_state_16 : decode cX3_state 16 = .ok (.lshl, 1) := by decide +kernel
theorem dX3_state_17 : decode cX3_state 17 = .ok (.aload_n 0, 1) := by decide +kernel
theorem dX3_state_18 : decode cX3_state 18 = .ok (.getfield 11, 3) := by decide +kernel
theorem dX3_state_21 : decode cX3_state 21 = .ok (.i2l, 1) := by decide +kernel
theorem dX3_state_22 : decode cX3_state 22 = .ok (.lor, 1) := by decide +kernel
theorem dX3_state_23 : decode cX3_state 23 = .ok (.lreturn, 1) := by decide +kernel
theorem dX3_become_0 : decode cX3_become 0 = .ok (.aload_n 0, 1) := by decide +kernel
theorem dX3_become_1 : decode cX3_become 1 = .ok (.lload_n 1, 1) := by decide +kernel
theorem dX3_become_2 : decode cX3_become 2 = .ok (.l2i, 1) := by decide +kernel
theorem dX3_become_3 : decode cX3_become 3 = .ok (.ldc 65, 2) := by decide +kernel
theorem dX3_become_5 : decode cX3_become 5 = .ok (.iand, 1) := by decide +kernel
theorem dX3_become_6 : decode cX3_become 6 = .ok (.putfield 11, 3) := by decide +kernel
theorem dX3_become_9 : decode cX3_become 9 = .ok (.aload_n 0, 1) := by decide +kernel
theorem dX3_become_10 : decode cX3_become 10 = .ok (.lload_n 1, 1) := by decide +kernel
theorem dX3_become_11 : decode cX3_become 11 = .ok (.bipush 20, 2) := by decide +kernel
theorem dX3_become_13 : decode cX3_become 13 = .ok (.lushr, 1) := by decide +kernel
theorem dX3_become_14 : decode cX3_become 14 = .ok (.l2i, 1) := by decide +kernel
theorem dX3_become_15 : decode cX3_become 15 = .ok (.ldc 65, 2) := by decide +kernel
theorem dX3_become_17 : decode cX3_become 17 = .ok (.iand, 1) := by decide +kernel
theorem dX3_become_18 : decode cX3_become 18 = .ok (.putfield 15, 3) := by decide +kernel
theorem dX3_become_21 : decode cX3_become 21 = .ok (.aload_n 0, 1) := by decide +kernel
theorem dX3_become_22 : decode cX3_become 22 = .ok (.lload_n 1, 1) := by decide +kernel
theorem dX3_become_23 : decode cX3_become 23 = .ok (.bipush 40, 2) := by decide +kernel
theorem dX3_become_25 : decode cX3_become 25 = .ok (.lushr, 1) := by decide +kernel
theorem dX3_become_26 : decode cX3_become 26 = .ok (.l2i, 1) := by decide +kernel
theorem dX3_become_27 : decode cX3_become 27 = .ok (.putfield 18, 3) := by decide +kernel
theorem dX3_become_30 : decode cX3_become 30 = .ok (.return_, 1) := by decide +kernel
set_option maxRecDepth 20000 in
theorem ggX3_changePlaces_X0_swapped : GoodIn wsX3_changePlaces wsX0_swapped := goodIn_r _ [5, 6, 7, 4, 8, 9, 10, 11] (by decide +kernel) (by decide +kernel)
set_option maxRecDepth 20000 in
theorem gX3_changePlaces_X0_swapped : GoodIn wsX3_changePlaces (va_wsS RX3 66 yX0_swapped wsX0_swapped) := goodIn_app (goodIn_of _ (by decide +kernel)) ggX3_changePlaces_X0_swapped
set_option maxRecDepth 20000 in
theorem ggX3_changePlaces_X3_walkerAt : GoodIn wsX3_changePlaces wsX3_walkerAt := goodIn_r _ [16, 1, 17, 7, 4, 8, 24, 25, 26, 27, 28] (by decide +kernel) (by decide +kernel)
set_option maxRecDepth 20000 in
theorem gX3_changePlaces_X3_walkerAt : GoodIn wsX3_changePlaces (wsV RX3 49 RX3 yX3_walkerAt wsX3_walkerAt) := goodIn_app (goodIn_of _ (by decide +kernel)) ggX3_changePlaces_X3_walkerAt
set_option maxRecDepth 20000 in
theorem ggX3_changePlaces_X3_setQuiet : GoodIn wsX3_changePlaces wsX3_setQuiet := goodIn_r _ [21, 22, 23, 10, 4, 11, 24, 25, 26, 27, 28] (by decide +kernel) (by decide +kernel)
set_option maxRecDepth 20000 in
theorem gX3_changePlaces_X3_setQuiet : GoodIn wsX3_changePlaces (wsV RX3 70 RX3 yX3_setQuiet wsX3_setQuiet) := goodIn_app (goodIn_of _ (by decide +kernel)) ggX3_changePlaces_X3_setQuiet
theorem dX3_changePlaces_0 : decode cX3_changePlaces 0 = .ok (.aload_n 0, 1) := by decide +kernel
theorem dX3_changePlaces_1 : decode cX3_changePlaces 1 = .ok (.aload_n 0, 1) := by decide +kernel
theorem dX3_changePlaces_2 : decode cX3_changePlaces 2 = .ok (.getfield 11, 3) := by decide +kernel
theorem dX3_changePlaces_5 : decode cX3_changePlaces 5 = .ok (.iload_n 1, 1) := by decide +kernel
theorem dX3_changePlaces_6 : decode cX3_changePlaces 6 = .ok (.iload_n 1, 1) := by decide +kernel
theorem dX3_changePlaces_7 : decode cX3_changePlaces 7 = .ok (.iconst 1, 1) := by decide +kernel
theorem dX3_changePlaces_8 : decode cX3_changePlaces 8 = .ok (.iadd, 1) := by decide +kernel
theorem dX3_changePlaces_9 : decode cX3_changePlaces 9 = .ok (.invokestatic 66, 3) := by decide +kernel
theorem dX3_changePlaces_12 : decode cX3_changePlaces 12 = .ok (.putfield 11, 3) := by decide +kernel
theorem dX3_changePlaces_15 : decode cX3_changePlaces 15 = .ok (.aload_n 0, 1) := by decide +kernel
theorem dX3_changePlaces_16 : decode cX3_changePlaces 16 = .ok (.aload_n 0, 1) := by decide +kernel
theorem dX3_changePlaces_17 : decode cX3_changePlaces 17 = .ok (.iload_n 1, 1) := by decide +kernel
theorem dX3_changePlaces_18 : decode cX3_changePlaces 18 = .ok (.invokevirtual 49, 3) := by decide +kernel
theorem dX3_changePlaces_21 : decode cX3_changePlaces 21 = .ok (.iconst 0, 1) := by decide +kernel
theorem dX3_changePlaces_22 : decode cX3_changePlaces 22 = .ok (.invokevirtual 70, 3) := by decide +kernel
theorem dX3_changePlaces_25 : decode cX3_changePlaces 25 = .ok (.aload_n 0, 1) := by decide +kernel
theorem dX3_changePlaces_26 : decode cX3_changePlaces 26 = .ok (.aload_n 0, 1) := by decide +kernel
theorem dX3_changePlaces_27 : decode cX3_changePlaces 27 = .ok (.iload_n 1, 1) := by decide +kernel
theorem dX3_changePlaces_28 : decode cX3_changePlaces 28 = .ok (.iconst 1, 1) := by decide +kernel
theorem dX3_changePlaces_29 : decode cX3_changePlaces 29 = .ok (.iadd, 1) := by decide +kernel
theorem dX3_changePlaces_30 : decode cX3_changePlaces 30 = .ok (.invokevirtual 49, 3) := by decide +kernel
theorem dX3_changePlaces_33 : decode cX3_changePlaces 33 = .ok (.iconst 0, 1) := by decide +kernel
theorem dX3_changePlaces_34 : decode cX3_changePlaces 34 = .ok (.invokevirtual 70, 3) := by decide +kernel
theorem dX3_changePlaces_37 : decode cX3_changePlaces 37 = .ok (.return_, 1) := by decide +kernel
set_option maxRecDepth 20000 in
theorem ggX3_calm_X3_size : GoodIn wsX3_calm wsX3_size := goodIn_r _ [5, 6, 7, 8, 9, 10, 11, 12, 13, 31, 32, 33, 34, 35] (by decide +kernel) (by decide +kernel)
set_option maxRecDepth 20000 in
theorem gX3_calm_X3_size : GoodIn wsX3_calm (wsV RX3 47 RX3 yX3_size wsX3_size) := goodIn_app (goodIn_of _ (by decide +kernel)) ggX3_calm_X3_size
set_option maxRecDepth 20000 in
theorem ggX3_calm_X3_walkerAt : GoodIn wsX3_calm wsX3_walkerAt := goodIn_r _ [17, 6, 18, 12, 9, 13, 31, 32, 33, 34, 35] (by decide +kernel) (by decide +kernel)
set_option maxRecDepth 20000 in
theorem gX3_calm_X3_walkerAt : GoodIn wsX3_calm (wsV RX3 49 RX3 yX3_walkerAt wsX3_walkerAt) := goodIn_app (goodIn_of _ (by decide +kernel)) ggX3_calm_X3_walkerAt
set_option maxRecDepth 20000 in
theorem ggX3_calm_X3_quiet : GoodIn wsX3_calm wsX3_quiet := goodIn_r _ [22, 23, 18, 12, 9, 13, 31, 32, 33, 34, 35] (by decide +kernel) (by decide +kernel)
set_option maxRecDepth 20000 in
theorem gX3_calm_X3_quiet : GoodIn wsX3_calm (wsV RX3 73 RX3 yX3_quiet wsX3_quiet) := goodIn_app (goodIn_of _ (by decide +kernel)) ggX3_calm_X3_quiet
set_option maxRecDepth 20000 in
theorem ggX3_calm_X3_setQuiet : GoodIn wsX3_calm wsX3_setQuiet := goodIn_r _ [27, 23, 28, 29, 9, 30, 31, 32, 33, 34, 35] (by decide +kernel) (by decide +kernel)
set_option maxRecDepth 20000 in
theorem gX3_calm_X3_setQuiet : GoodIn wsX3_calm (wsV RX3 70 RX3 yX3_setQuiet wsX3_setQuiet) := goodIn_app (goodIn_of _ (by decide +kernel)) ggX3_calm_X3_setQuiet
theorem dX3_calm_0 : decode cX3_calm 0 = .ok (.iconst 0, 1) := by decide +kernel
theorem dX3_calm_1 : decode cX3_calm 1 = .ok (.istore_n 1, 1) := by decide +kernel
theorem dX3_calm_2 : decode cX3_calm 2 = .ok (.iconst 0, 1) := by decide +kernel
theorem dX3_calm_3 : decode cX3_calm 3 = .ok (.istore_n 2, 1) := by decide +kernel
theorem dX3_calm_4 : decode cX3_calm 4 = .ok (.iload_n 2, 1) := by decide +kernel
theorem dX3_calm_5 : decode cX3_calm 5 = .ok (.aload_n 0, 1) := by decide +kernel
theorem dX3_calm_6 : decode cX3_calm 6 = .ok (.invokevirtual 47, 3) := by decide +kernel
theorem dX3_calm_9 : decode cX3_calm 9 = .ok (.if_icmp .ge 34, 3) := by decide +kernel
theorem dX3_calm_12 : decode cX3_calm 12 = .ok (.aload_n 0, 1) := by decide +kernel
theorem dX3_calm_13 : decode cX3_calm 13 = .ok (.aload_n 0, 1) := by decide +kernel
theorem dX3_calm_14 : decode cX3_calm 14 = .ok (.iload_n 2, 1) := by decide +kernel
theorem dX3_calm_15 : decode cX3_calm 15 = .ok (.invokevirtual 49, 3) := by decide +kernel
theorem dX3_calm_18 : decode cX3_calm 18 = .ok (.invokevirtual 73, 3) := by decide +kernel
theorem dX3_calm_21 : decode cX3_calm 21 = .ok (.ifCond .le 16, 3) := by decide +kernel
theorem dX3_calm_24 : decode cX3_calm 24 = .ok (.iinc 1 1, 3) := by decide +kernel
theorem dX3_calm_27 : decode cX3_calm 27 = .ok (.aload_n 0, 1) := by decide +kernel
theorem dX3_calm_28 : decode cX3_calm 28 = .ok (.aload_n 0, 1) := by decide +kernel
theorem dX3_calm_29 : decode cX3_calm 29 = .ok (.iload_n 2, 1) := by decide +kernel
theorem dX3_calm_30 : decode cX3_calm 30 = .ok (.invokevirtual 49, 3) := by decide +kernel
theorem dX3_calm_33 : decode cX3_calm 33 = .ok (.iconst 0, 1) := by decide +kernel
theorem dX3_calm_34 : decode cX3_calm 34 = .ok (.invokevirtual 70, 3) := by decide +kernel
theorem dX3_calm_37 : decode cX3_calm 37 = .ok (.iinc 2 1, 3) := by decide +kernel
theorem dX3_calm_40 : decode cX3_calm 40 = .ok (.goto (-36), 3) := by decide +kernel
theorem dX3_calm_43 : decode cX3_calm 43 = .ok (.iload_n 1, 1) := by decide +kernel
theorem dX3_calm_44 : decode cX3_calm 44 = .ok (.ireturn, 1) := by decide +kernel
set_option maxRecDepth 20000 in
theorem ggX3_sing_X3_isOut : GoodIn wsX3_sing wsX3_isOut := goodIn_r _ [6, 7, 8, 9, 10, 11, 12, 13, 14, 79, 80, 81, 82, 83, 84, 85, 86, 87, 88] (by decide +kernel) (by decide +kernel)
set_option maxRecDepth 20000 in
theorem gX3_sing_X3_isOut : GoodIn wsX3_sing (wsV RX3 76 RX3 yX3_isOut wsX3_isOut) := goodIn_app (goodIn_of _ (by decide +kernel)) ggX3_sing_X3_isOut
set_option maxRecDepth 20000 in
theorem ggX3_sing_X3_treadsOf : GoodIn wsX3_sing wsX3_treadsOf := goodIn_r _ [17, 18] (by decide +kernel) (by decide +kernel)
set_option maxRecDepth 20000 in
theorem gX3_sing_X3_treadsOf : GoodIn wsX3_sing (va_wsS RX3 80 yX3_treadsOf wsX3_treadsOf) := goodIn_app (goodIn_of _ (by decide +kernel)) ggX3_sing_X3_treadsOf
set_option maxRecDepth 20000 in
theorem ggX3_sing_X3_step : GoodIn wsX3_sing wsX3_step := goodIn_r _ [22, 8, 7, 23, 24, 25, 5, 26, 27, 28, 29, 30, 31, 32, 33, 34, 35, 36, 37, 38, 39, 40, 41, 42, 12, 43, 44, 45, 46, 47, 48, 49, 50, 51, 52, 53, 54, 55, 56, 57, 58, 59, 60, 61, 62, 63, 64, 65, 66, 67, 68, 69, 70, 1, 71, 72, 73, 74, 75, 76, 77, 78, 79, 80, 81, 82, 83, 84, 85, 86, 87, 88] (by decide +kernel) (by decide +kernel)
set_option maxRecDepth 20000 in
theorem gX3_sing_X3_step : GoodIn wsX3_sing (wsV RX3 84 RX3 yX3_step wsX3_step) := goodIn_app (goodIn_of _ (by decide +kernel)) ggX3_sing_X3_step
theorem dX3_sing_0 : decode cX3_sing 0 = .ok (.bipush (-9), 2) := by decide +kernel
theorem dX3_sing_2 : decode cX3_sing 2 = .ok (.istore 4, 2) := by decide +kernel
theorem dX3_sing_4 : decode cX3_sing 4 = .ok (.iconst 0, 1) := by decide +kernel
theorem dX3_sing_5 : decode cX3_sing 5 = .ok (.istore 5, 2) := by decide +kernel
theorem dX3_sing_7 : decode cX3_sing 7 = .ok (.iload 5, 2) := by decide +kernel
theorem dX3_sing_9 : decode cX3_sing 9 = .ok (.iload_n 1, 1) := by decide +kernel
theorem dX3_sing_10 : decode cX3_sing 10 = .ok (.if_icmp .ge 49, 3) := by decide +kernel
theorem dX3_sing_13 : decode cX3_sing 13 = .ok (.aload_n 0, 1) := by decide +kernel
theorem dX3_sing_14 : decode cX3_sing 14 = .ok (.invokevirtual 76, 3) := by decide +kernel
theorem dX3_sing_17 : decode cX3_sing 17 = .ok (.ifCond .ne 42, 3) := by decide +kernel
theorem dX3_sing_20 : decode cX3_sing 20 = .ok (.aload_n 0, 1) := by decide +kernel
theorem dX3_sing_21 : decode cX3_sing 21 = .ok (.lload_n 2, 1) := by decide +kernel
theorem dX3_sing_22 : decode cX3_sing 22 = .ok (.iload_n 1, 1) := by decide +kernel
theorem dX3_sing_23 : decode cX3_sing 23 = .ok (.iconst 1, 1) := by decide +kernel
theorem dX3_sing_24 : decode cX3_sing 24 = .ok (.isub, 1) := by decide +kernel
theorem dX3_sing_25 : decode cX3_sing 25 = .ok (.iload 5, 2) := by decide +kernel
theorem dX3_sing_27 : decode cX3_sing 27 = .ok (.isub, 1) := by decide +kernel
theorem dX3_sing_28 : decode cX3_sing 28 = .ok (.invokestatic 80, 3) := by decide +kernel
theorem dX3_sing_31 : decode cX3_sing 31 = .ok (.invokevirtual 84, 3) := by decide +kernel
theorem dX3_sing_34 : decode cX3_sing 34 = .ok (.pop, 1) := by decide +kernel
theorem dX3_sing_35 : decode cX3_sing 35 = .ok (.aload_n 0, 1) := by decide +kernel
theorem dX3_sing_36 : decode cX3_sing 36 = .ok (.getfield 21, 3) := by decide +kernel
theorem dX3_sing_39 : decode cX3_sing 39 = .ok (.ifCond .eq 14, 3) := by decide +kernel
theorem dX3_sing_42 : decode cX3_sing 42 = .ok (.iload 4, 2) := by decide +kernel
theorem dX3_sing_44 : decode cX3_sing 44 = .ok (.bipush (-9), 2) := by decide +kernel
theorem dX3_sing_46 : decode cX3_sing 46 = .ok (.if_icmp .ne 7, 3) := by decide +kernel
theorem dX3_sing_49 : decode cX3_sing 49 = .ok (.iload 5, 2) := by decide +kernel
theorem dX3_sing_51 : decode cX3_sing 51 = .ok (.istore 4, 2) := by decide +kernel
theorem dX3_sing_53 : decode cX3_sing 53 = .ok (.iinc 5 1, 3) := by decide +kernel
theorem dX3_sing_56 : decode cX3_sing 56 = .ok (.goto (-49), 3) := by decide +kernel
theorem dX3_sing_59 : decode cX3_sing 59 = .ok (.iload 4, 2) := by decide +kernel
theorem dX3_sing_61 : decode cX3_sing 61 = .ok (.ireturn, 1) := by decide +kernel
set_option maxRecDepth 20000 in
theorem ggX3_step_X3_size : GoodIn wsX3_step wsX3_size := goodIn_r _ [7, 8, 9, 10, 11, 12, 13, 14, 15, 62, 63, 64, 65, 66] (by decide +kernel) (by decide +kernel)
set_option maxRecDepth 20000 in
theorem gX3_step_X3_size : GoodIn wsX3_step (wsV RX3 47 RX3 yX3_size wsX3_size) := goodIn_app (goodIn_of _ (by decide +kernel)) ggX3_step_X3_size
set_option maxRecDepth 20000 in
theorem ggX3_step_X3_walkerAt : GoodIn wsX3_step wsX3_walkerAt := goodIn_r _ [19, 8, 20, 14, 11, 15, 62, 63, 64, 65, 66] (by decide +kernel) (by decide +kernel)
set_option maxRecDepth 20000 in
theorem gX3_step_X3_walkerAt : GoodIn wsX3_step (wsV RX3 49 RX3 yX3_walkerAt wsX3_walkerAt) := goodIn_app (goodIn_of _ (by decide +kernel)) ggX3_step_X3_walkerAt
set_option maxRecDepth 20000 in
theorem ggX3_step_X1_kind : GoodIn wsX3_step wsX1_kind := goodIn_r _ [25, 26, 27, 14, 11, 15, 67, 68, 69, 70, 71] (by decide +kernel) (by decide +kernel)
set_option maxRecDepth 20000 in
theorem gX3_step_X1_kind : GoodIn wsX3_step (wsV RX3 87 RX1 yX1_kind wsX1_kind) := goodIn_app (goodIn_of _ (by decide +kernel)) ggX3_step_X1_kind
set_option maxRecDepth 20000 in
theorem ggX3_step_X3_isHeard : GoodIn wsX3_step wsX3_isHeard := goodIn_r _ [31, 1, 2, 21, 22, 23, 24, 25, 26, 27, 14, 11, 15, 32, 33, 34, 35, 36, 62, 63, 64, 65, 66, 67, 68, 69, 70, 71] (by decide +kernel) (by decide +kernel)
set_option maxRecDepth 20000 in
theorem gX3_step_X3_isHeard : GoodIn wsX3_step (wsV RX3 90 RX3 yX3_isHeard wsX3_isHeard) := goodIn_app (goodIn_of _ (by decide +kernel)) ggX3_step_X3_isHeard
set_option maxRecDepth 20000 in
theorem ggX3_step_X3_quiet : GoodIn wsX3_step wsX3_quiet := goodIn_r _ [40, 41, 20, 14, 11, 15, 62, 63, 64, 65, 66] (by decide +kernel) (by decide +kernel)
set_option maxRecDepth 20000 in
theorem gX3_step_X3_quiet : GoodIn wsX3_step (wsV RX3 73 RX3 yX3_quiet wsX3_quiet) := goodIn_app (goodIn_of _ (by decide +kernel)) ggX3_step_X3_quiet
set_option maxRecDepth 20000 in
theorem ggX3_step_X3_setQuiet : GoodIn wsX3_step wsX3_setQuiet := goodIn_r _ [45, 41, 46, 47, 11, 48, 62, 63, 64, 65, 66] (by decide +kernel) (by decide +kernel)
set_option maxRecDepth 20000 in
theorem gX3_step_X3_setQuiet : GoodIn wsX3_step (wsV RX3 70 RX3 yX3_setQuiet wsX3_setQuiet) := goodIn_app (goodIn_of _ (by decide +kernel)) ggX3_step_X3_setQuiet
set_option maxRecDepth 20000 in
theorem ggX3_step_X3_turnRound : GoodIn wsX3_step wsX3_turnRound := goodIn_r _ [52, 53, 8, 1, 9, 10, 11, 12, 13, 14, 15, 16, 17, 18, 6, 19, 20, 21, 22, 23, 24, 25, 26, 27, 37, 38, 39, 40, 41, 54, 55, 56, 57, 58, 59, 60, 61, 42, 43, 44, 45, 46, 47, 48, 62, 63, 64, 65, 66, 67, 68, 69, 70, 71] (by decide +kernel) (by decide +kernel)
set_option maxRecDepth 20000 in
theorem gX3_step_X3_turnRound : GoodIn wsX3_step (wsV RX3 94 RX3 yX3_turnRound wsX3_turnRound) := goodIn_app (goodIn_of _ (by decide +kernel)) ggX3_step_X3_turnRound
theorem dX3_step_0 : decode cX3_step 0 = .ok (.aload_n 0, 1) := by decide +kernel
theorem dX3_step_1 : decode cX3_step 1 = .ok (.invokevirtual 47, 3) := by decide +kernel
theorem dX3_step_4 : decode cX3_step 4 = .ok (.iconst 1, 1) := by decide +kernel
theorem dX3_step_5 : decode cX3_step 5 = .ok (.isub, 1) := by decide +kernel
theorem dX3_step_6 : decode cX3_step 6 = .ok (.istore_n 2, 1) := by decide +kernel
theorem dX3_step_7 : decode cX3_step 7 = .ok (.iconst 0, 1) := by decide +kernel
theorem dX3_step_8 : decode cX3_step 8 = .ok (.istore_n 3, 1) := by decide +kernel
theorem dX3_step_9 : decode cX3_step 9 = .ok (.iload_n 3, 1) := by decide +kernel
theorem dX3_step_10 : decode cX3_step 10 = .ok (.iload_n 2, 1) := by decide +kernel
theorem dX3_step_11 : decode cX3_step 11 = .ok (.if_icmp .ge 74, 3) := by decide +kernel
theorem dX3_step_14 : decode cX3_step 14 = .ok (.aload_n 0, 1) := by decide +kernel
theorem dX3_step_15 : decode cX3_step 15 = .ok (.iload_n 3, 1) := by decide +kernel
theorem dX3_step_16 : decode cX3_step 16 = .ok (.invokevirtual 49, 3) := by decide +kernel
theorem dX3_step_19 : decode cX3_step 19 = .ok (.istore 4, 2) := by decide +kernel
theorem dX3_step_21 : decode cX3_step 21 = .ok (.aload_n 0, 1) := by decide +kernel
theorem dX3_step_22 : decode cX3_step 22 = .ok (.getfield 24, 3) := by decide +kernel
theorem dX3_step_25 : decode cX3_step 25 = .ok (.iload 4, 2) := by decide +kernel
theorem dX3_step_27 : decode cX3_step 27 = .ok (.invokevirtual 87, 3) := by decide +kernel
theorem dX3_step_30 : decode cX3_step 30 = .ok (.iconst 1, 1) := by decide +kernel
theorem dX3_step_31 : decode cX3_step 31 = .ok (.if_icmp .eq 22, 3) := by decide +kernel
theorem dX3_step_34 : decode cX3_step 34 = .ok (.aload_n 0, 1) := by decide +kernel
theorem dX3_step_35 : decode cX3_step 35 = .ok (.aload_n 0, 1) := by decide +kernel
theorem dX3_step_36 : decode cX3_step 36 = .ok (.iload_n 3, 1) := by decide +kernel
theorem dX3_step_37 : decode cX3_step 37 = .ok (.iconst 1, 1) := by decide +kernel
theorem dX3_step_38 : decode cX3_step 38 = .ok (.iadd, 1) := by decide +kernel
theorem dX3_step_39 : decode cX3_step 39 = .ok (.invokevirtual 49, 3) := by decide +kernel
theorem dX3_step_42 : decode cX3_step 42 = .ok (.iload_n 1, 1) := by decide +kernel
theorem dX3_step_43 : decode cX3_step 43 = .ok (.invokevirtual 90, 3) := by decide +kernel
theorem dX3_step_46 : decode cX3_step 46 = .ok (.ifCond .eq 7, 3) := by decide +kernel
theorem dX3_step_49 : decode cX3_step 49 = .ok (.iconst 1, 1) := by decide +kernel
theorem dX3_step_50 : decode cX3_step 50 = .ok (.goto 4, 3) := by decide +kernel
theorem dX3_step_53 : decode cX3_step 53 = .ok (.iconst 0, 1) := by decide +kernel
theorem dX3_step_54 : decode cX3_step 54 = .ok (.istore 5, 2) := by decide +kernel
theorem dX3_step_56 : decode cX3_step 56 = .ok (.aload_n 0, 1) := by decide +kernel
theorem dX3_step_57 : decode cX3_step 57 = .ok (.iload 4, 2) := by decide +kernel
theorem dX3_step_59 : decode cX3_step 59 = .ok (.iload 5, 2) := by decide +kernel
theorem dX3_step_61 : decode cX3_step 61 = .ok (.ifCond .eq 7, 3) := by decide +kernel
theorem dX3_step_64 : decode cX3_step 64 = .ok (.iconst 0, 1) := by decide +kernel
theorem dX3_step_65 : decode cX3_step 65 = .ok (.goto 11, 3) := by decide +kernel
theorem dX3_step_68 : decode cX3_step 68 = .ok (.aload_n 0, 1) := by decide +kernel
theorem dX3_step_69 : decode cX3_step 69 = .ok (.iload 4, 2) := by decide +kernel
theorem dX3_step_71 : decode cX3_step 71 = .ok (.invokevirtual 73, 3) := by decide +kernel
theorem dX3_step_74 : decode cX3_step 74 = .ok (.iconst 1, 1) := by decide +kernel
theorem dX3_step_75 : decode cX3_step 75 = .ok (.iadd, 1) := by decide +kernel
theorem dX3_step_76 : decode cX3_step 76 = .ok (.invokevirtual 70, 3) := by decide +kernel
theorem dX3_step_79 : decode cX3_step 79 = .ok (.iinc 3 1, 3) := by decide +kernel
theorem dX3_step_82 : decode cX3_step 82 = .ok (.goto (-73), 3) := by decide +kernel
theorem dX3_step_85 : decode cX3_step 85 = .ok (.aload_n 0, 1) := by decide +kernel
theorem dX3_step_86 : decode cX3_step 86 = .ok (.invokevirtual 94, 3) := by decide +kernel
theorem dX3_step_89 : decode cX3_step 89 = .ok (.istore_n 3, 1) := by decide +kernel
theorem dX3_step_90 : decode cX3_step 90 = .ok (.aload_n 0, 1) := by decide +kernel
theorem dX3_step_91 : decode cX3_step 91 = .ok (.dup, 1) := by decide +kernel
theorem dX3_step_92 : decode cX3_step 92 = .ok (.getfield 18, 3) := by decide +kernel
theorem dX3_step_95 : decode cX3_step 95 = .ok (.iconst 1, 1) := by decide +kernel
theorem dX3_step_96 : decode cX3_step 96 = .ok (.iadd, 1) := by decide +kernel
theorem dX3_step_97 : decode cX3_step 97 = .ok (.putfield 18, 3) := by decide +kernel
theorem dX3_step_100 : decode cX3_step 100 = .ok (.iload_n 3, 1) := by decide +kernel
theorem dX3_step_101 : decode cX3_step 101 = .ok (.ireturn, 1) := by decide +kernel
set_option maxRecDepth 20000 in
theorem ggX3_isHeard_X1_kind : GoodIn wsX3_isHeard wsX1_kind := goodIn_r _ [7, 8, 9, 10, 11, 12, 23, 24, 25, 26, 27] (by decide +kernel) (by decide +kernel)
set_option maxRecDepth 20000 in
theorem gX3_isHeard_X1_kind : GoodIn wsX3_isHeard (wsV RX3 87 RX1 yX1_kind wsX1_kind) := goodIn_app (goodIn_of _ (by decide +kernel)) ggX3_isHeard_X1_kind
set_option maxRecDepth 20000 in
theorem ggX3_isHeard_X1_water : GoodIn wsX3_isHeard wsX1_water := goodIn_r _ [16, 17, 23, 24, 25, 26, 27] (by decide +kernel) (by decide +kernel)
set_option maxRecDepth 20000 in
theorem gX3_isHeard_X1_water : GoodIn wsX3_isHeard (wsV RX3 97 RX1 yX1_water wsX1_water) := goodIn_app (goodIn_of _ (by decide +kernel)) ggX3_isHeard_X1_water
theorem dX3_isHeard_0 : decode cX3_isHeard 0 = .ok (.aload_n 0, 1) := by decide +kernel
theorem dX3_isHeard_1 : decode cX3_isHeard 1 = .ok (.getfield 24, 3) := by decide +kernel
theorem dX3_isHeard_4 : decode cX3_isHeard 4 = .ok (.iload_n 1, 1) := by decide +kernel
theorem dX3_isHeard_5 : decode cX3_isHeard 5 = .ok (.invokevirtual 87, 3) := by decide +kernel
theorem dX3_isHeard_8 : decode cX3_isHeard 8 = .ok (.istore_n 3, 1) := by decide +kernel
theorem dX3_isHeard_9 : decode cX3_isHeard 9 = .ok (.iload_n 2, 1) := by decide +kernel
theorem dX3_isHeard_10 : decode cX3_isHeard 10 = .ok (.iload_n 1, 1) := by decide +kernel
theorem dX3_isHeard_11 : decode cX3_isHeard 11 = .ok (.ishr, 1) := by decide +kernel
theorem dX3_isHeard_12 : decode cX3_isHeard 12 = .ok (.iconst 1, 1) := by decide +kernel
theorem dX3_isHeard_13 : decode cX3_isHeard 13 = .ok (.iand, 1) := by decide +kernel
theorem dX3_isHeard_14 : decode cX3_isHeard 14 = .ok (.iconst 1, 1) := by decide +kernel
theorem dX3_isHeard_15 : decode cX3_isHeard 15 = .ok (.if_icmp .ne 7, 3) := by decide +kernel
theorem dX3_isHeard_18 : decode cX3_isHeard 18 = .ok (.iconst 1, 1) := by decide +kernel
theorem dX3_isHeard_19 : decode cX3_isHeard 19 = .ok (.goto 4, 3) := by decide +kernel
theorem dX3_isHeard_22 : decode cX3_isHeard 22 = .ok (.iconst 0, 1) := by decide +kernel
theorem dX3_isHeard_23 : decode cX3_isHeard 23 = .ok (.istore 4, 2) := by decide +kernel
theorem dX3_isHeard_25 : decode cX3_isHeard 25 = .ok (.iload_n 3, 1) := by decide +kernel
theorem dX3_isHeard_26 : decode cX3_isHeard 26 = .ok (.iconst 3, 1) := by decide +kernel
theorem dX3_isHeard_27 : decode cX3_isHeard 27 = .ok (.if_icmp .ne 16, 3) := by decide +kernel
theorem dX3_isHeard_30 : decode cX3_isHeard 30 = .ok (.aload_n 0, 1) := by decide +kernel
theorem dX3_isHeard_31 : decode cX3_isHeard 31 = .ok (.getfield 18, 3) := by decide +kernel
theorem dX3_isHeard_34 : decode cX3_isHeard 34 = .ok (.iconst 2, 1) := by decide +kernel
theorem dX3_isHeard_35 : decode cX3_isHeard 35 = .ok (.irem, 1) := by decide +kernel
theorem dX3_isHeard_36 : decode cX3_isHeard 36 = .ok (.ifCond .eq 7, 3) := by decide +kernel
theorem dX3_isHeard_39 : decode cX3_isHeard 39 = .ok (.iconst 1, 1) := by decide +kernel
theorem dX3_isHeard_40 : decode cX3_isHeard 40 = .ok (.goto 4, 3) := by decide +kernel
theorem dX3_isHeard_43 : decode cX3_isHeard 43 = .ok (.iconst 0, 1) := by decide +kernel
theorem dX3_isHeard_44 : decode cX3_isHeard 44 = .ok (.istore 5, 2) := by decide +kernel
theorem dX3_isHeard_46 : decode cX3_isHeard 46 = .ok (.aload_n 0, 1) := by decide +kernel
theorem dX3_isHeard_47 : decode cX3_isHeard 47 = .ok (.getfield 18, 3) := by decide +kernel
theorem dX3_isHeard_50 : decode cX3_isHeard 50 = .ok (.aload_n 0, 1) := by decide +kernel
theorem dX3_isHeard_51 : decode cX3_isHeard 51 = .ok (.getfield 24, 3) := by decide +kernel
theorem dX3_isHeard_54 : decode cX3_isHeard 54 = .ok (.invokevirtual 97, 3) := by decide +kernel
theorem dX3_isHeard_57 : decode cX3_isHeard 57 = .ok (.if_icmp .eq 18, 3) := by decide +kernel
theorem dX3_isHeard_60 : decode cX3_isHeard 60 = .ok (.iload_n 3, 1) := by decide +kernel
theorem dX3_isHeard_61 : decode cX3_isHeard 61 = .ok (.iconst 2, 1) := by decide +kernel
theorem dX3_isHeard_62 : decode cX3_isHeard 62 = .ok (.if_icmp .eq 13, 3) := by decide +kernel
theorem dX3_isHeard_65 : decode cX3_isHeard 65 = .ok (.iload 4, 2) := by decide +kernel
theorem dX3_isHeard_67 : decode cX3_isHeard 67 = .ok (.ifCond .eq 12, 3) := by decide +kernel
theorem dX3_isHeard_70 : decode cX3_isHeard 70 = .ok (.iload 5, 2) := by decide +kernel
theorem dX3_isHeard_72 : decode cX3_isHeard 72 = .ok (.ifCond .ne 7, 3) := by decide +kernel
theorem dX3_isHeard_75 : decode cX3_isHeard 75 = .ok (.iconst 1, 1) := by decide +kernel
theorem dX3_isHeard_76 : decode cX3_isHeard 76 = .ok (.goto 4, 3) := by decide +kernel
theorem dX3_isHeard_79 : decode cX3_isHeard 79 = .ok (.iconst 0, 1) := by decide +kernel
theorem dX3_isHeard_80 : decode cX3_isHeard 80 = .ok (.ireturn, 1) := by decide +kernel
set_option maxRecDepth 20000 in
theorem ggX3_turnRound_X0_size : GoodIn wsX3_turnRound wsX0_size := goodIn_r _ [7, 8, 9, 6, 10] (by decide +kernel) (by decide +kernel)
set_option maxRecDepth 20000 in
theorem gX3_turnRound_X0_size : GoodIn wsX3_turnRound (va_wsS RX3 28 yX0_size wsX0_size) := goodIn_app (goodIn_of _ (by decide +kernel)) ggX3_turnRound_X0_size
set_option maxRecDepth 20000 in
theorem ggX3_turnRound_X3_walkerAt : GoodIn wsX3_turnRound wsX3_walkerAt := goodIn_r _ [15, 2, 16, 9, 6, 10, 44, 45, 46, 47, 48] (by decide +kernel) (by decide +kernel)
set_option maxRecDepth 20000 in
theorem gX3_turnRound_X3_walkerAt : GoodIn wsX3_turnRound (wsV RX3 49 RX3 yX3_walkerAt wsX3_walkerAt) := goodIn_app (goodIn_of _ (by decide +kernel)) ggX3_turnRound_X3_walkerAt
set_option maxRecDepth 20000 in
theorem ggX3_turnRound_X1_kind : GoodIn wsX3_turnRound wsX1_kind := goodIn_r _ [21, 22, 23, 9, 6, 10, 49, 50, 51, 52, 53] (by decide +kernel) (by decide +kernel)
set_option maxRecDepth 20000 in
theorem gX3_turnRound_X1_kind : GoodIn wsX3_turnRound (wsV RX3 87 RX1 yX1_kind wsX1_kind) := goodIn_app (goodIn_of _ (by decide +kernel)) ggX3_turnRound_X1_kind
set_option maxRecDepth 20000 in
theorem ggX3_turnRound_X3_quiet : GoodIn wsX3_turnRound wsX3_quiet := goodIn_r _ [27, 28, 16, 9, 6, 10, 44, 45, 46, 47, 48] (by decide +kernel) (by decide +kernel)
set_option maxRecDepth 20000 in
theorem gX3_turnRound_X3_quiet : GoodIn wsX3_turnRound (wsV RX3 73 RX3 yX3_quiet wsX3_quiet) := goodIn_app (goodIn_of _ (by decide +kernel)) ggX3_turnRound_X3_quiet
set_option maxRecDepth 20000 in
theorem ggX3_turnRound_X1_nerve : GoodIn wsX3_turnRound wsX1_nerve := goodIn_r _ [32, 33, 23, 9, 6, 10, 49, 50, 51, 52, 53] (by decide +kernel) (by decide +kernel)
set_option maxRecDepth 20000 in
theorem gX3_turnRound_X1_nerve : GoodIn wsX3_turnRound (wsV RX3 100 RX1 yX1_nerve wsX1_nerve) := goodIn_app (goodIn_of _ (by decide +kernel)) ggX3_turnRound_X1_nerve
set_option maxRecDepth 20000 in
theorem ggX3_turnRound_X0_without : GoodIn wsX3_turnRound wsX0_without := goodIn_r _ [36] (by decide +kernel) (by decide +kernel)
set_option maxRecDepth 20000 in
theorem gX3_turnRound_X0_without : GoodIn wsX3_turnRound (va_wsS RX3 103 yX0_without wsX0_without) := goodIn_app (goodIn_of _ (by decide +kernel)) ggX3_turnRound_X0_without
set_option maxRecDepth 20000 in
theorem ggX3_turnRound_X3_setQuiet : GoodIn wsX3_turnRound wsX3_setQuiet := goodIn_r _ [40, 28, 41, 42, 6, 43, 44, 45, 46, 47, 48] (by decide +kernel) (by decide +kernel)
set_option maxRecDepth 20000 in
theorem gX3_turnRound_X3_setQuiet : GoodIn wsX3_turnRound (wsV RX3 70 RX3 yX3_setQuiet wsX3_setQuiet) := goodIn_app (goodIn_of _ (by decide +kernel)) ggX3_turnRound_X3_setQuiet
theorem dX3_turnRound_0 : decode cX3_turnRound 0 = .ok (.aload_n 0, 1) := by decide +kernel
theorem dX3_turnRound_1 : decode cX3_turnRound 1 = .ok (.iconst 0, 1) := by decide +kernel
theorem dX3_turnRound_2 : decode cX3_turnRound 2 = .ok (.putfield 21, 3) := by decide +kernel
theorem dX3_turnRound_5 : decode cX3_turnRound 5 = .ok (.iconst 0, 1) := by decide +kernel
theorem dX3_turnRound_6 : decode cX3_turnRound 6 = .ok (.istore_n 1, 1) := by decide +kernel
theorem dX3_turnRound_7 : decode cX3_turnRound 7 = .ok (.iconst 0, 1) := by decide +kernel
theorem dX3_turnRound_8 : decode cX3_turnRound 8 = .ok (.istore_n 2, 1) := by decide +kernel
theorem dX3_turnRound_9 : decode cX3_turnRound 9 = .ok (.iload_n 2, 1) := by decide +kernel
theorem dX3_turnRound_10 : decode cX3_turnRound 10 = .ok (.iconst 1, 1) := by decide +kernel
theorem dX3_turnRound_11 : decode cX3_turnRound 11 = .ok (.iadd, 1) := by decide +kernel
theorem dX3_turnRound_12 : decode cX3_turnRound 12 = .ok (.aload_n 0, 1) := by decide +kernel
theorem dX3_turnRound_13 : decode cX3_turnRound 13 = .ok (.getfield 11, 3) := by decide +kernel
theorem dX3_turnRound_16 : decode cX3_turnRound 16 = .ok (.invokestatic 28, 3) := by decide +kernel
theorem dX3_turnRound_19 : decode cX3_turnRound 19 = .ok (.if_icmp .ge 87, 3) := by decide +kernel
theorem dX3_turnRound_22 : decode cX3_turnRound 22 = .ok (.aload_n 0, 1) := by decide +kernel
theorem dX3_turnRound_23 : decode cX3_turnRound 23 = .ok (.iload_n 2, 1) := by decide +kernel
theorem dX3_turnRound_24 : decode cX3_turnRound 24 = .ok (.invokevirtual 49, 3) := by decide +kernel
theorem dX3_turnRound_27 : decode cX3_turnRound 27 = .ok (.istore_n 3, 1) := by decide +kernel
theorem dX3_turnRound_28 : decode cX3_turnRound 28 = .ok (.aload_n 0, 1) := by decide +kernel
theorem dX3_turnRound_29 : decode cX3_turnRound 29 = .ok (.getfield 24, 3) := by decide +kernel
theorem dX3_turnRound_32 : decode cX3_turnRound 32 = .ok (.iload_n 3, 1) := by decide +kernel
theorem dX3_turnRound_33 : decode cX3_turnRound 33 = .ok (.invokevirtual 87, 3) := by decide +kernel
theorem dX3_turnRound_36 : decode cX3_turnRound 36 = .ok (.iconst 1, 1) := by decide +kernel
theorem dX3_turnRound_37 : decode cX3_turnRound 37 = .ok (.if_icmp .eq 63, 3) := by decide +kernel
theorem dX3_turnRound_40 : decode cX3_turnRound 40 = .ok (.aload_n 0, 1) := by decide +kernel
theorem dX3_turnRound_41 : decode cX3_turnRound 41 = .ok (.iload_n 3, 1) := by decide +kernel
theorem dX3_turnRound_42 : decode cX3_turnRound 42 = .ok (.invokevirtual 73, 3) := by decide +kernel
theorem dX3_turnRound_45 : decode cX3_turnRound 45 = .ok (.aload_n 0, 1) := by decide +kernel
theorem dX3_turnRound_46 : decode cX3_turnRound 46 = .ok (.getfield 24, 3) := by decide +kernel
theorem dX3_turnRound_49 : decode cX3_turnRound 49 = .ok (.iload_n 3, 1) := by decide +kernel
theorem dX3_turnRound_50 : decode cX3_turnRound 50 = .ok (.invokevirtual 100, 3) := by decide +kernel
theorem dX3_turnRound_53 : decode cX3_turnRound 53 = .ok (.if_icmp .le 47, 3) := by decide +kernel
theorem dX3_turnRound_56 : decode cX3_turnRound 56 = .ok (.aload_n 0, 1) := by decide +kernel
theorem dX3_turnRound_57 : decode cX3_turnRound 57 = .ok (.dup, 1) := by decide +kernel
theorem dX3_turnRound_58 : decode cX3_turnRound 58 = .ok (.getfield 21, 3) := by decide +kernel
theorem dX3_turnRound_61 : decode cX3_turnRound 61 = .ok (.iconst 1, 1) := by decide +kernel
theorem dX3_turnRound_62 : decode cX3_turnRound 62 = .ok (.iload_n 3, 1) := by decide +kernel
theorem dX3_turnRound_63 : decode cX3_turnRound 63 = .ok (.ishl, 1) := by decide +kernel
theorem dX3_turnRound_64 : decode cX3_turnRound 64 = .ok (.ior, 1) := by decide +kernel
theorem dX3_turnRound_65 : decode cX3_turnRound 65 = .ok (.putfield 21, 3) := by decide +kernel
theorem dX3_turnRound_68 : decode cX3_turnRound 68 = .ok (.iload_n 1, 1) := by decide +kernel
theorem dX3_turnRound_69 : decode cX3_turnRound 69 = .ok (.iconst 1, 1) := by decide +kernel
theorem dX3_turnRound_70 : decode cX3_turnRound 70 = .ok (.aload_n 0, 1) := by decide +kernel
theorem dX3_turnRound_71 : decode cX3_turnRound 71 = .ok (.iload_n 2, 1) := by decide +kernel
theorem dX3_turnRound_72 : decode cX3_turnRound 72 = .ok (.iconst 1, 1) := by decide +kernel
theorem dX3_turnRound_73 : decode cX3_turnRound 73 = .ok (.iadd, 1) := by decide +kernel
theorem dX3_turnRound_74 : decode cX3_turnRound 74 = .ok (.invokevirtual 49, 3) := by decide +kernel
theorem dX3_turnRound_77 : decode cX3_turnRound 77 = .ok (.ishl, 1) := by decide +kernel
theorem dX3_turnRound_78 : decode cX3_turnRound 78 = .ok (.ior, 1) := by decide +kernel
theorem dX3_turnRound_79 : decode cX3_turnRound 79 = .ok (.istore_n 1, 1) := by decide +kernel
theorem dX3_turnRound_80 : decode cX3_turnRound 80 = .ok (.aload_n 0, 1) := by decide +kernel
theorem dX3_turnRound_81 : decode cX3_turnRound 81 = .ok (.aload_n 0, 1) := by decide +kernel
theorem dX3_turnRound_82 : decode cX3_turnRound 82 = .ok (.getfield 11, 3) := by decide +kernel
theorem dX3_turnRound_85 : decode cX3_turnRound 85 = .ok (.iload_n 2, 1) := by decide +kernel
theorem dX3_turnRound_86 : decode cX3_turnRound 86 = .ok (.iconst 1, 1) := by decide +kernel
theorem dX3_turnRound_87 : decode cX3_turnRound 87 = .ok (.iadd, 1) := by decide +kernel
theorem dX3_turnRound_88 : decode cX3_turnRound 88 = .ok (.invokestatic 103, 3) := by decide +kernel
theorem dX3_turnRound_91 : decode cX3_turnRound 91 = .ok (.putfield 11, 3) := by decide +kernel
theorem dX3_turnRound_94 : decode cX3_turnRound 94 = .ok (.aload_n 0, 1) := by decide +kernel
theorem dX3_turnRound_95 : decode cX3_turnRound 95 = .ok (.iload_n 3, 1) := by decide +kernel
theorem dX3_turnRound_96 : decode cX3_turnRound 96 = .ok (.iconst 0, 1) := by decide +kernel
theorem dX3_turnRound_97 : decode cX3_turnRound 97 = .ok (.invokevirtual 70, 3) := by decide +kernel
theorem dX3_turnRound_100 : decode cX3_turnRound 100 = .ok (.iinc 2 1, 3) := by decide +kernel
theorem dX3_turnRound_103 : decode cX3_turnRound 103 = .ok (.goto (-94), 3) := by decide +kernel
theorem dX3_turnRound_106 : decode cX3_turnRound 106 = .ok (.iload_n 1, 1) := by decide +kernel
theorem dX3_turnRound_107 : decode cX3_turnRound 107 = .ok (.ireturn, 1) := by decide +kernel
set_option maxRecDepth 20000 in
theorem ggX3_walkerAt_X0_at : GoodIn wsX3_walkerAt wsX0_at := goodIn_r _ [5] (by decide +kernel) (by decide +kernel)
set_option maxRecDepth 20000 in
theorem gX3_walkerAt_X0_at : GoodIn wsX3_walkerAt (va_wsS RX3 43 yX0_at wsX0_at) := goodIn_app (goodIn_of _ (by decide +kernel)) ggX3_walkerAt_X0_at
theorem dX3_walkerAt_0 : decode cX3_walkerAt 0 = .ok (.aload_n 0, 1) := by decide +kernel
theorem dX3_walkerAt_1 : decode cX3_walkerAt 1 = .ok (.getfield 11, 3) := by decide +kernel
theorem dX3_walkerAt_4 : decode cX3_walkerAt 4 = .ok (.iload_n 1, 1) := by decide +kernel
theorem dX3_walkerAt_5 : decode cX3_walkerAt 5 = .ok (.invokestatic 43, 3) := by decide +kernel
theorem dX3_walkerAt_8 : decode cX3_walkerAt 8 = .ok (.iconst 1, 1) := by decide +kernel
theorem dX3_walkerAt_9 : decode cX3_walkerAt 9 = .ok (.isub, 1) := by decide +kernel
theorem dX3_walkerAt_10 : decode cX3_walkerAt 10 = .ok (.ireturn, 1) := by decide +kernel
set_option maxRecDepth 20000 in
theorem ggX3_setQuiet_X0_with : GoodIn wsX3_setQuiet wsX0_with := goodIn_r _ [5] (by decide +kernel) (by decide +kernel)
set_option maxRecDepth 20000 in
theorem gX3_setQuiet_X0_with : GoodIn wsX3_setQuiet (va_wsS RX3 106 yX0_with wsX0_with) := goodIn_app (goodIn_of _ (by decide +kernel)) ggX3_setQuiet_X0_with
theorem dX3_setQuiet_0 : decode cX3_setQuiet 0 = .ok (.aload_n 0, 1) := by decide +kernel
theorem dX3_setQuiet_1 : decode cX3_setQuiet 1 = .ok (.aload_n 0, 1) := by decide +kernel
theorem dX3_setQuiet_2 : decode cX3_setQuiet 2 = .ok (.getfield 15, 3) := by decide +kernel
theorem dX3_setQuiet_5 : decode cX3_setQuiet 5 = .ok (.iload_n 1, 1) := by decide +kernel
theorem dX3_setQuiet_6 : decode cX3_setQuiet 6 = .ok (.iload_n 2, 1) := by decide +kernel
theorem dX3_setQuiet_7 : decode cX3_setQuiet 7 = .ok (.invokestatic 106, 3) := by decide +kernel
theorem dX3_setQuiet_10 : decode cX3_setQuiet 10 = .ok (.putfield 15, 3) := by decide +kernel
theorem dX3_setQuiet_13 : decode cX3_setQuiet 13 = .ok (.return_, 1) := by decide +kernel
theorem dX3_treadsOf_0 : decode cX3_treadsOf 0 = .ok (.lload_n 0, 1) := by decide +kernel
theorem dX3_treadsOf_1 : decode cX3_treadsOf 1 = .ok (.lstore_n 3, 1) := by decide +kernel
theorem dX3_treadsOf_2 : decode cX3_treadsOf 2 = .ok (.iconst 0, 1) := by decide +kernel
theorem dX3_treadsOf_3 : decode cX3_treadsOf 3 = .ok (.istore 5, 2) := by decide +kernel
theorem dX3_treadsOf_5 : decode cX3_treadsOf 5 = .ok (.iload 5, 2) := by decide +kernel
theorem dX3_treadsOf_7 : decode cX3_treadsOf 7 = .ok (.iload_n 2, 1) := by decide +kernel
theorem dX3_treadsOf_8 : decode cX3_treadsOf 8 = .ok (.if_icmp .ge 15, 3) := by decide +kernel
theorem dX3_treadsOf_11 : decode cX3_treadsOf 11 = .ok (.lload_n 3, 1) := by decide +kernel
theorem dX3_treadsOf_12 : decode cX3_treadsOf 12 = .ok (.ldc2_w 109, 3) := by decide +kernel
theorem dX3_treadsOf_15 : decode cX3_treadsOf 15 = .ok (.ldiv, 1) := by decide +kernel
theorem dX3_treadsOf_16 : decode cX3_treadsOf 16 = .ok (.lstore_n 3, 1) := by decide +kernel
theorem dX3_treadsOf_17 : decode cX3_treadsOf 17 = .ok (.iinc 5 1, 3) := by decide +kernel
theorem dX3_treadsOf_20 : decode cX3_treadsOf 20 = .ok (.goto (-15), 3) := by decide +kernel
theorem dX3_treadsOf_23 : decode cX3_treadsOf 23 = .ok (.lload_n 3, 1) := by decide +kernel
theorem dX3_treadsOf_24 : decode cX3_treadsOf 24 = .ok (.ldc2_w 109, 3) := by decide +kernel
theorem dX3_treadsOf_27 : decode cX3_treadsOf 27 = .ok (.lrem, 1) := by decide +kernel
theorem dX3_treadsOf_28 : decode cX3_treadsOf 28 = .ok (.l2i, 1) := by decide +kernel
theorem dX3_treadsOf_29 : decode cX3_treadsOf 29 = .ok (.ireturn, 1) := by decide +kernel
end
section
set_option maxRecDepth 20000 in
theorem ggX4_init_X2_init : GoodIn wsX4_init wsX2_init := goodIn_r _ [27, 28, 2, 3, 29, 30, 31, 49, 50] (by decide +kernel) (by decide +kernel)
set_option maxRecDepth 20000 in
theorem gX4_init_X2_init_n9 : GoodIn wsX4_init (wsX2_init) := ggX4_init_X2_init
set_option maxRecDepth 20000 in
theorem ggX4_init_X1_init : GoodIn wsX4_init wsX1_init := goodIn_r _ [33, 34, 2, 3, 35, 36, 37, 38, 39, 62, 63, 64, 65, 66] (by decide +kernel) (by decide +kernel)
set_option maxRecDepth 20000 in
theorem gX4_init_X1_init_n18 : GoodIn wsX4_init (wsX1_init) := ggX4_init_X1_init
set_option maxRecDepth 20000 in
theorem ggX4_init_X3_init : GoodIn wsX4_init wsX3_init := goodIn_r _ [42, 43, 2, 3, 44, 45, 46, 47, 48, 67, 68, 69, 70, 71] (by decide +kernel) (by decide +kernel)
set_option maxRecDepth 20000 in
theorem gX4_init_X3_init : GoodIn wsX4_init (wsX3_init) := ggX4_init_X3_init
theorem dX4_init_0 : decode cX4_init 0 = .ok (.aload_n 0, 1) := by decide +kernel
theorem dX4_init_1 : decode cX4_init 1 = .ok (.invokespecial 1, 3) := by decide +kernel
theorem dX4_init_4 : decode cX4_init 4 = .ok (.aload_n 0, 1) := by decide +kernel
theorem dX4_init_5 : decode cX4_init 5 = .ok (.new 7, 3) := by decide +kernel
theorem dX4_init_8 : decode cX4_init 8 = .ok (.dup, 1) := by decide +kernel
theorem dX4_init_9 : decode cX4_init 9 = .ok (.invokespecial 9, 3) := by decide +kernel
theorem dX4_init_12 : decode cX4_init 12 = .ok (.putfield 10, 3) := by decide +kernel
theorem dX4_init_15 : decode cX4_init 15 = .ok (.aload_n 0, 1) := by decide +kernel
theorem dX4_init_16 : decode cX4_init 16 = .ok (.new 16, 3) := by decide +kernel
theorem dX4_init_19 : decode cX4_init 19 = .ok (.dup, 1) := by decide +kernel
theorem dX4_init_20 : decode cX4_init 20 = .ok (.invokespecial 18, 3) := by decide +kernel
theorem dX4_init_23 : decode cX4_init 23 = .ok (.putfield 19, 3) := by decide +kernel
theorem dX4_init_26 : decode cX4_init 26 = .ok (.aload_n 0, 1) := by decide +kernel
theorem dX4_init_27 : decode cX4_init 27 = .ok (.new 23, 3) := by decide +kernel
theorem dX4_init_30 : decode cX4_init 30 = .ok (.dup, 1) := by decide +kernel
theorem dX4_init_31 : decode cX4_init 31 = .ok (.aload_n 0, 1) := by decide +kernel
theorem dX4_init_32 : decode cX4_init 32 = .ok (.getfield 19, 3) := by decide +kernel
theorem dX4_init_35 : decode cX4_init 35 = .ok (.invokespecial 25, 3) := by decide +kernel
theorem dX4_init_38 : decode cX4_init 38 = .ok (.putfield 28, 3) := by decide +kernel
theorem dX4_init_41 : decode cX4_init 41 = .ok (.aload_n 0, 1) := by decide +kernel
theorem dX4_init_42 : decode cX4_init 42 = .ok (.new 23, 3) := by decide +kernel
theorem dX4_init_45 : decode cX4_init 45 = .ok (.dup, 1) := by decide +kernel
theorem dX4_init_46 : decode cX4_init 46 = .ok (.aload_n 0, 1) := by decide +kernel
theorem dX4_init_47 : decode cX4_init 47 = .ok (.getfield 19, 3) := by decide +kernel
theorem dX4_init_50 : decode cX4_init 50 = .ok (.invokespecial 25, 3) := by decide +kernel
theorem dX4_init_53 : decode cX4_init 53 = .ok (.putfield 32, 3) := by decide +kernel
theorem dX4_init_56 : decode cX4_init 56 = .ok (.aload_n 0, 1) := by decide +kernel
theorem dX4_init_57 : decode cX4_init 57 = .ok (.bipush 14, 2) := by decide +kernel
theorem dX4_init_59 : decode cX4_init 59 = .ok (.newarray .long, 2) := by decide +kernel
theorem dX4_init_61 : decode cX4_init 61 = .ok (.putfield 35, 3) := by decide +kernel
theorem dX4_init_64 : decode cX4_init 64 = .ok (.aload_n 0, 1) := by decide +kernel
theorem dX4_init_65 : decode cX4_init 65 = .ok (.iconst 0, 1) := by decide +kernel
theorem dX4_init_66 : decode cX4_init 66 = .ok (.putfield 39, 3) := by decide +kernel
theorem dX4_init_69 : decode cX4_init 69 = .ok (.aload_n 0, 1) := by decide +kernel
theorem dX4_init_70 : decode cX4_init 70 = .ok (.iconst 2, 1) := by decide +kernel
theorem dX4_init_71 : decode cX4_init 71 = .ok (.newarray .long, 2) := by decide +kernel
theorem dX4_init_73 : decode cX4_init 73 = .ok (.dup, 1) := by decide +kernel
theorem dX4_init_74 : decode cX4_init 74 = .ok (.iconst 0, 1) := by decide +kernel
theorem dX4_init_75 : decode cX4_init 75 = .ok (.ldc2_w 43, 3) := by decide +kernel
theorem dX4_init_78 : decode cX4_init 78 = .ok (.lastore, 1) := by decide +kernel
theorem dX4_init_79 : decode cX4_init 79 = .ok (.dup, 1) := by decide +kernel
theorem dX4_init_80 : decode cX4_init 80 = .ok (.iconst 1, 1) := by decide +kernel
theorem dX4_init_81 : decode cX4_init 81 = .ok (.ldc2_w 43, 3) := by decide +kernel
theorem dX4_init_84 : decode cX4_init 84 = .ok (.lastore, 1) := by decide +kernel
theorem dX4_init_85 : decode cX4_init 85 = .ok (.putfield 45, 3) := by decide +kernel
theorem dX4_init_88 : decode cX4_init 88 = .ok (.aload_n 0, 1) := by decide +kernel
theorem dX4_init_89 : decode cX4_init 89 = .ok (.iconst 0, 1) := by decide +kernel
theorem dX4_init_90 : decode cX4_init 90 = .ok (.putfield 48, 3) := by decide +kernel
theorem dX4_init_93 : decode cX4_init 93 = .ok (.aload_n 0, 1) := by decide +kernel
theorem dX4_init_94 : decode cX4_init 94 = .ok (.iconst 0, 1) := by decide +kernel
theorem dX4_init_95 : decode cX4_init 95 = .ok (.putfield 51, 3) := by decide +kernel
theorem dX4_init_98 : decode cX4_init 98 = .ok (.aload_n 0, 1) := by decide +kernel
theorem dX4_init_99 : decode cX4_init 99 = .ok (.iconst 0, 1) := by decide +kernel
theorem dX4_init_100 : decode cX4_init 100 = .ok (.putfield 54, 3) := by decide +kernel
theorem dX4_init_103 : decode cX4_init 103 = .ok (.aload_n 0, 1) := by decide +kernel
theorem dX4_init_104 : decode cX4_init 104 = .ok (.lconst 0, 1) := by decide +kernel
theorem dX4_init_105 : decode cX4_init 105 = .ok (.putfield 57, 3) := by decide +kernel
theorem dX4_init_108 : decode cX4_init 108 = .ok (.return_, 1) := by decide +kernel
set_option maxRecDepth 20000 in
theorem ggX4_write_X4_within : GoodIn wsX4_write wsX4_within := goodIn_r _ [5] (by decide +kernel) (by decide +kernel)
set_option maxRecDepth 20000 in
theorem gX4_write_X4_within : GoodIn wsX4_write (va_wsS RX4 61 yX4_within wsX4_within) := goodIn_app (goodIn_of _ (by decide +kernel)) ggX4_write_X4_within
set_option maxRecDepth 20000 in
theorem ggX4_write_X2_append : GoodIn wsX4_write wsX2_append := goodIn_r _ [10, 11, 12, 28, 29] (by decide +kernel) (by decide +kernel)
set_option maxRecDepth 20000 in
theorem gX4_write_X2_append : GoodIn wsX4_write (wsV RX4 65 RX2 yX2_append wsX2_append) := goodIn_app (goodIn_of _ (by decide +kernel)) ggX4_write_X2_append
set_option maxRecDepth 20000 in
theorem ggX4_write_X2_length : GoodIn wsX4_write wsX2_length := goodIn_r _ [16, 11, 28, 29] (by decide +kernel) (by decide +kernel)
set_option maxRecDepth 20000 in
theorem gX4_write_X2_length : GoodIn wsX4_write (wsV RX4 69 RX2 yX2_length wsX2_length) := goodIn_app (goodIn_of _ (by decide +kernel)) ggX4_write_X2_length
theorem dX4_write_0 : decode cX4_write 0 = .ok (.iload_n 1, 1) := by decide +kernel
theorem dX4_write_1 : decode cX4_write 1 = .ok (.iconst 0, 1) := by decide +kernel
theorem dX4_write_2 : decode cX4_write 2 = .ok (.sipush 255, 3) := by decide +kernel
theorem dX4_write_5 : decode cX4_write 5 = .ok (.invokestatic 61, 3) := by decide +kernel
theorem dX4_write_8 : decode cX4_write 8 = .ok (.ifCond .ne 6, 3) := by decide +kernel
theorem dX4_write_11 : decode cX4_write 11 = .ok (.bipush (-2), 2) := by decide +kernel
theorem dX4_write_13 : decode cX4_write 13 = .ok (.ireturn, 1) := by decide +kernel
theorem dX4_write_14 : decode cX4_write 14 = .ok (.aload_n 0, 1) := by decide +kernel
theorem dX4_write_15 : decode cX4_write 15 = .ok (.getfield 10, 3) := by decide +kernel
theorem dX4_write_18 : decode cX4_write 18 = .ok (.iload_n 1, 1) := by decide +kernel
theorem dX4_write_19 : decode cX4_write 19 = .ok (.invokevirtual 65, 3) := by decide +kernel
theorem dX4_write_22 : decode cX4_write 22 = .ok (.ifCond .eq 13, 3) := by decide +kernel
theorem dX4_write_25 : decode cX4_write 25 = .ok (.aload_n 0, 1) := by decide +kernel
theorem dX4_write_26 : decode cX4_write 26 = .ok (.getfield 10, 3) := by decide +kernel
theorem dX4_write_29 : decode cX4_write 29 = .ok (.invokevirtual 69, 3) := by decide +kernel
theorem dX4_write_32 : decode cX4_write 32 = .ok (.goto 5, 3) := by decide +kernel
theorem dX4_write_35 : decode cX4_write 35 = .ok (.bipush (-4), 2) := by decide +kernel
theorem dX4_write_37 : decode cX4_write 37 = .ok (.ireturn, 1) := by decide +kernel
set_option maxRecDepth 20000 in
theorem ggX4_wipe_X2_length : GoodIn wsX4_wipe wsX2_length := goodIn_r _ [6, 7, 23, 24] (by decide +kernel) (by decide +kernel)
set_option maxRecDepth 20000 in
theorem gX4_wipe_X2_length : GoodIn wsX4_wipe (wsV RX4 69 RX2 yX2_length wsX2_length) := goodIn_app (goodIn_of _ (by decide +kernel)) ggX4_wipe_X2_length
set_option maxRecDepth 20000 in
theorem ggX4_wipe_X2_clear : GoodIn wsX4_wipe wsX2_clear := goodIn_r _ [11, 7, 23, 24] (by decide +kernel) (by decide +kernel)
set_option maxRecDepth 20000 in
theorem gX4_wipe_X2_clear : GoodIn wsX4_wipe (wsV RX4 73 RX2 yX2_clear wsX2_clear) := goodIn_app (goodIn_of _ (by decide +kernel)) ggX4_wipe_X2_clear
theorem dX4_wipe_0 : decode cX4_wipe 0 = .ok (.aload_n 0, 1) := by decide +kernel
theorem dX4_wipe_1 : decode cX4_wipe 1 = .ok (.getfield 10, 3) := by decide +kernel
theorem dX4_wipe_4 : decode cX4_wipe 4 = .ok (.invokevirtual 69, 3) := by decide +kernel
theorem dX4_wipe_7 : decode cX4_wipe 7 = .ok (.istore_n 1, 1) := by decide +kernel
theorem dX4_wipe_8 : decode cX4_wipe 8 = .ok (.aload_n 0, 1) := by decide +kernel
theorem dX4_wipe_9 : decode cX4_wipe 9 = .ok (.getfield 10, 3) := by decide +kernel
theorem dX4_wipe_12 : decode cX4_wipe 12 = .ok (.invokevirtual 73, 3) := by decide +kernel
theorem dX4_wipe_15 : decode cX4_wipe 15 = .ok (.iload_n 1, 1) := by decide +kernel
theorem dX4_wipe_16 : decode cX4_wipe 16 = .ok (.ireturn, 1) := by decide +kernel
set_option maxRecDepth 20000 in
theorem ggX4_fault_X2_firstFault : GoodIn wsX4_fault wsX2_firstFault := goodIn_r _ [6, 7, 8, 9, 10, 5, 11, 12, 13, 14, 15, 16, 17, 18, 19, 20, 21, 22, 23, 24, 25, 26, 27, 39, 40] (by decide +kernel) (by decide +kernel)
set_option maxRecDepth 20000 in
theorem gX4_fault_X2_firstFault : GoodIn wsX4_fault (wsV RX4 76 RX2 yX2_firstFault wsX2_firstFault) := goodIn_app (goodIn_of _ (by decide +kernel)) ggX4_fault_X2_firstFault
theorem dX4_fault_0 : decode cX4_fault 0 = .ok (.aload_n 0, 1) := by decide +kernel
theorem dX4_fault_1 : decode cX4_fault 1 = .ok (.getfield 10, 3) := by decide +kernel
theorem dX4_fault_4 : decode cX4_fault 4 = .ok (.invokevirtual 76, 3) := by decide +kernel
theorem dX4_fault_7 : decode cX4_fault 7 = .ok (.ireturn, 1) := by decide +kernel
set_option maxRecDepth 20000 in
theorem ggX4_gorge_X2_firstFault : GoodIn wsX4_gorge wsX2_firstFault := goodIn_r _ [9, 10, 11, 12, 13, 8, 14, 15, 16, 17, 18, 19, 20, 21, 22, 23, 24, 25, 26, 27, 28, 29, 30, 100, 101] (by decide +kernel) (by decide +kernel)
set_option maxRecDepth 20000 in
theorem gX4_gorge_X2_firstFault : GoodIn wsX4_gorge (wsV RX4 76 RX2 yX2_firstFault wsX2_firstFault) := goodIn_app (goodIn_of _ (by decide +kernel)) ggX4_gorge_X2_firstFault
set_option maxRecDepth 20000 in
theorem ggX4_gorge_X1_read : GoodIn wsX4_gorge wsX1_read := goodIn_r _ [35, 36, 37, 38, 39, 40, 41, 21, 22, 8, 23, 15, 16, 17, 18, 19, 42, 43, 44, 45, 10, 46, 47, 48, 49, 20, 50, 51, 52, 53, 54, 55, 56, 57, 102, 103, 104, 105, 106, 100, 101] (by decide +kernel) (by decide +kernel)
set_option maxRecDepth 20000 in
theorem gX4_gorge_X1_read : GoodIn wsX4_gorge (wsV RX4 79 RX1 yX1_read wsX1_read) := goodIn_app (goodIn_of _ (by decide +kernel)) ggX4_gorge_X1_read
set_option maxRecDepth 20000 in
theorem ggX4_gorge_X3_start : GoodIn wsX4_gorge wsX3_start := goodIn_r _ [62, 63, 64, 65, 66, 34, 67, 38, 68, 69, 52, 70, 71, 51, 53, 72, 73, 74, 61, 75, 76, 77, 78, 107, 108, 109, 110, 111, 102, 103, 104, 105, 106] (by decide +kernel) (by decide +kernel)
set_option maxRecDepth 20000 in
theorem gX4_gorge_X3_start : GoodIn wsX4_gorge (wsV RX4 83 RX3 yX3_start wsX3_start) := goodIn_app (goodIn_of _ (by decide +kernel)) ggX4_gorge_X3_start
set_option maxRecDepth 20000 in
theorem ggX4_gorge_X4_forgetKept : GoodIn wsX4_gorge wsX4_forgetKept := goodIn_r _ [82, 83, 84, 89, 90, 91, 92, 93, 94, 95, 96, 97, 98, 99] (by decide +kernel) (by decide +kernel)
set_option maxRecDepth 20000 in
theorem gX4_gorge_X4_forgetKept : GoodIn wsX4_gorge (wsV RX4 86 RX4 yX4_forgetKept wsX4_forgetKept) := goodIn_app (goodIn_of _ (by decide +kernel)) ggX4_gorge_X4_forgetKept
set_option maxRecDepth 20000 in
theorem ggX4_gorge_X1_walkers : GoodIn wsX4_gorge wsX1_walkers := goodIn_r _ [88, 38, 102, 103, 104, 105, 106] (by decide +kernel) (by decide +kernel)
set_option maxRecDepth 20000 in
theorem gX4_gorge_X1_walkers : GoodIn wsX4_gorge (wsV RX4 89 RX1 yX1_walkers wsX1_walkers) := goodIn_app (goodIn_of _ (by decide +kernel)) ggX4_gorge_X1_walkers
theorem dX4_gorge_0 : decode cX4_gorge 0 = .ok (.aload_n 0, 1) := by decide +kernel
theorem dX4_gorge_1 : decode cX4_gorge 1 = .ok (.getfield 10, 3) := by decide +kernel
theorem dX4_gorge_4 : decode cX4_gorge 4 = .ok (.invokevirtual 76, 3) := by decide +kernel
theorem dX4_gorge_7 : decode cX4_gorge 7 = .ok (.bipush (-9), 2) := by decide +kernel
theorem dX4_gorge_9 : decode cX4_gorge 9 = .ok (.if_icmp .eq 6, 3) := by decide +kernel
theorem dX4_gorge_12 : decode cX4_gorge 12 = .ok (.bipush (-3), 2) := by decide +kernel
theorem dX4_gorge_14 : decode cX4_gorge 14 = .ok (.ireturn, 1) := by decide +kernel
theorem dX4_gorge_15 : decode cX4_gorge 15 = .ok (.aload_n 0, 1) := by decide +kernel
theorem dX4_gorge_16 : decode cX4_gorge 16 = .ok (.getfield 19, 3) := by decide +kernel
theorem dX4_gorge_19 : decode cX4_gorge 19 = .ok (.aload_n 0, 1) := by decide +kernel
theorem dX4_gorge_20 : decode cX4_gorge 20 = .ok (.getfield 10, 3) := by decide +kernel
theorem dX4_gorge_23 : decode cX4_gorge 23 = .ok (.invokevirtual 79, 3) := by decide +kernel
theorem dX4_gorge_26 : decode cX4_gorge 26 = .ok (.aload_n 0, 1) := by decide +kernel
theorem dX4_gorge_27 : decode cX4_gorge 27 = .ok (.getfield 28, 3) := by decide +kernel
theorem dX4_gorge_30 : decode cX4_gorge 30 = .ok (.invokevirtual 83, 3) := by decide +kernel
theorem dX4_gorge_33 : decode cX4_gorge 33 = .ok (.aload_n 0, 1) := by decide +kernel
theorem dX4_gorge_34 : decode cX4_gorge 34 = .ok (.iconst 0, 1) := by decide +kernel
theorem dX4_gorge_35 : decode cX4_gorge 35 = .ok (.putfield 39, 3) := by decide +kernel
theorem dX4_gorge_38 : decode cX4_gorge 38 = .ok (.aload_n 0, 1) := by decide +kernel
theorem dX4_gorge_39 : decode cX4_gorge 39 = .ok (.invokevirtual 86, 3) := by decide +kernel
theorem dX4_gorge_42 : decode cX4_gorge 42 = .ok (.aload_n 0, 1) := by decide +kernel
theorem dX4_gorge_43 : decode cX4_gorge 43 = .ok (.getfield 19, 3) := by decide +kernel
theorem dX4_gorge_46 : decode cX4_gorge 46 = .ok (.invokevirtual 89, 3) := by decide +kernel
theorem dX4_gorge_49 : decode cX4_gorge 49 = .ok (.ireturn, 1) := by decide +kernel
set_option maxRecDepth 20000 in
theorem ggX4_about_X1_walkers : GoodIn wsX4_about wsX1_walkers := goodIn_r _ [10, 11, 77, 78, 79, 80, 81] (by decide +kernel) (by decide +kernel)
set_option maxRecDepth 20000 in
theorem gX4_about_X1_walkers : GoodIn wsX4_about (wsV RX4 89 RX1 yX1_walkers wsX1_walkers) := goodIn_app (goodIn_of _ (by decide +kernel)) ggX4_about_X1_walkers
set_option maxRecDepth 20000 in
theorem ggX4_about_X1_light : GoodIn wsX4_about wsX1_light := goodIn_r _ [15, 16, 77, 78, 79, 80, 81] (by decide +kernel) (by decide +kernel)
set_option maxRecDepth 20000 in
theorem gX4_about_X1_light : GoodIn wsX4_about (wsV RX4 92 RX1 yX1_light wsX1_light) := goodIn_app (goodIn_of _ (by decide +kernel)) ggX4_about_X1_light
set_option maxRecDepth 20000 in
theorem ggX4_about_X1_water : GoodIn wsX4_about wsX1_water := goodIn_r _ [20, 21, 77, 78, 79, 80, 81] (by decide +kernel) (by decide +kernel)
set_option maxRecDepth 20000 in
theorem gX4_about_X1_water : GoodIn wsX4_about (wsV RX4 95 RX1 yX1_water wsX1_water) := goodIn_app (goodIn_of _ (by decide +kernel)) ggX4_about_X1_water
set_option maxRecDepth 20000 in
theorem ggX4_about_X3_place : GoodIn wsX4_about wsX3_place := goodIn_r _ [26, 27, 82, 83, 84, 85, 86] (by decide +kernel) (by decide +kernel)
set_option maxRecDepth 20000 in
theorem gX4_about_X3_place : GoodIn wsX4_about (wsV RX4 98 RX3 yX3_place wsX3_place) := goodIn_app (goodIn_of _ (by decide +kernel)) ggX4_about_X3_place
set_option maxRecDepth 20000 in
theorem ggX4_about_X3_members : GoodIn wsX4_about wsX3_members := goodIn_r _ [31, 32, 33, 34, 35, 36, 37, 38, 39, 40, 41, 42, 82, 83, 84, 85, 86] (by decide +kernel) (by decide +kernel)
set_option maxRecDepth 20000 in
theorem gX4_about_X3_members : GoodIn wsX4_about (wsV RX4 101 RX3 yX3_members wsX3_members) := goodIn_app (goodIn_of _ (by decide +kernel)) ggX4_about_X3_members
set_option maxRecDepth 20000 in
theorem ggX4_about_X1_everybody : GoodIn wsX4_about wsX1_everybody := goodIn_r _ [46, 11, 77, 78, 79, 80, 81] (by decide +kernel) (by decide +kernel)
set_option maxRecDepth 20000 in
theorem gX4_about_X1_everybody : GoodIn wsX4_about (wsV RX4 104 RX1 yX1_everybody wsX1_everybody) := goodIn_app (goodIn_of _ (by decide +kernel)) ggX4_about_X1_everybody
set_option maxRecDepth 20000 in
theorem ggX4_about_X3_row : GoodIn wsX4_about wsX3_row := goodIn_r _ [50, 32, 82, 83, 84, 85, 86] (by decide +kernel) (by decide +kernel)
set_option maxRecDepth 20000 in
theorem gX4_about_X3_row : GoodIn wsX4_about (wsV RX4 107 RX3 yX3_row wsX3_row) := goodIn_app (goodIn_of _ (by decide +kernel)) ggX4_about_X3_row
set_option maxRecDepth 20000 in
theorem ggX4_about_X0_figures : GoodIn wsX4_about wsX0_figures := goodIn_r _ [53, 37, 38, 35, 39, 40, 41, 42] (by decide +kernel) (by decide +kernel)
set_option maxRecDepth 20000 in
theorem gX4_about_X0_figures : GoodIn wsX4_about (va_wsS RX4 110 yX0_figures wsX0_figures) := goodIn_app (goodIn_of _ (by decide +kernel)) ggX4_about_X0_figures
set_option maxRecDepth 20000 in
theorem ggX4_about_X2_length : GoodIn wsX4_about wsX2_length := goodIn_r _ [58, 59, 87, 88] (by decide +kernel) (by decide +kernel)
set_option maxRecDepth 20000 in
theorem gX4_about_X2_length : GoodIn wsX4_about (wsV RX4 69 RX2 yX2_length wsX2_length) := goodIn_app (goodIn_of _ (by decide +kernel)) ggX4_about_X2_length
set_option maxRecDepth 20000 in
theorem ggX4_about_X3_isOut : GoodIn wsX4_about wsX3_isOut := goodIn_r _ [63, 27, 64, 65, 13, 14, 9, 15, 16, 82, 83, 84, 85, 86, 77, 78, 79, 80, 81] (by decide +kernel) (by decide +kernel)
set_option maxRecDepth 20000 in
theorem gX4_about_X3_isOut : GoodIn wsX4_about (wsV RX4 116 RX3 yX3_isOut wsX3_isOut) := goodIn_app (goodIn_of _ (by decide +kernel)) ggX4_about_X3_isOut
theorem dX4_about_0 : decode cX4_about 0 = .ok (.iload_n 1, 1) := by decide +kernel
theorem dX4_about_1 : decode cX4_about 1 = .ok (.tableswitch 162 0 10 #[59, 67, 75, 83, 91, 99, 117, 128, 133, 138, 146], 59) := by decide +kernel
theorem dX4_about_60 : decode cX4_about 60 = .ok (.aload_n 0, 1) := by decide +kernel
theorem dX4_about_61 : decode cX4_about 61 = .ok (.getfield 19, 3) := by decide +kernel
theorem dX4_about_64 : decode cX4_about 64 = .ok (.invokevirtual 89, 3) := by decide +kernel
theorem dX4_about_67 : decode cX4_about 67 = .ok (.ireturn, 1) := by decide +kernel
theorem dX4_about_68 : decode cX4_about 68 = .ok (.aload_n 0, 1) := by decide +kernel
theorem dX4_about_69 : decode cX4_about 69 = .ok (.getfield 19, 3) := by decide +kernel
theorem dX4_about_72 : decode cX4_about 72 = .ok (.invokevirtual 92, 3) := by decide +kernel
theorem dX4_about_75 : decode cX4_about 75 = .ok (.ireturn, 1) := by decide +kernel
theorem dX4_about_76 : decode cX4_about 76 = .ok (.aload_n 0, 1) := by decide +kernel
theorem dX4_about_77 : decode cX4_about 77 = .ok (.getfield 19, 3) := by decide +kernel
theorem dX4_about_80 : decode cX4_about 80 = .ok (.invokevirtual 95, 3) := by decide +kernel
theorem dX4_about_83 : decode cX4_about 83 = .ok (.ireturn, 1) := by decide +kernel
theorem dX4_about_84 : decode cX4_about 84 = .ok (.aload_n 0, 1) := by decide +kernel
theorem dX4_about_85 : decode cX4_about 85 = .ok (.getfield 28, 3) := by decide +kernel
theorem dX4_about_88 : decode cX4_about 88 = .ok (.invokevirtual 98, 3) := by decide +kernel
theorem dX4_about_91 : decode cX4_about 91 = .ok (.ireturn, 1) := by decide +kernel
theorem dX4_about_92 : decode cX4_about 92 = .ok (.aload_n 0, 1) := by decide +kernel
theorem dX4_about_93 : decode cX4_about 93 = .ok (.getfield 28, 3) := by decide +kernel
theorem dX4_about_96 : decode cX4_about 96 = .ok (.invokevirtual 101, 3) := by decide +kernel
theorem dX4_about_99 : decode cX4_about 99 = .ok (.ireturn, 1) := by decide +kernel
theorem dX4_about_100 : decode cX4_about 100 = .ok (.aload_n 0, 1) := by decide +kernel
theorem dX4_about_101 : decode cX4_about 101 = .ok (.getfield 19, 3) := by decide +kernel
theorem dX4_about_104 : decode cX4_about 104 = .ok (.invokevirtual 104, 3) := by decide +kernel
theorem dX4_about_107 : decode cX4_about 107 = .ok (.aload_n 0, 1) := by decide +kernel
theorem dX4_about_108 : decode cX4_about 108 = .ok (.getfield 28, 3) := by decide +kernel
theorem dX4_about_111 : decode cX4_about 111 = .ok (.invokevirtual 101, 3) := by decide +kernel
theorem dX4_about_114 : decode cX4_about 114 = .ok (.iconst (-1), 1) := by decide +kernel
theorem dX4_about_115 : decode cX4_about 115 = .ok (.ixor, 1) := by decide +kernel
theorem dX4_about_116 : decode cX4_about 116 = .ok (.iand, 1) := by decide +kernel
theorem dX4_about_117 : decode cX4_about 117 = .ok (.ireturn, 1) := by decide +kernel
theorem dX4_about_118 : decode cX4_about 118 = .ok (.aload_n 0, 1) := by decide +kernel
theorem dX4_about_119 : decode cX4_about 119 = .ok (.getfield 28, 3) := by decide +kernel
theorem dX4_about_122 : decode cX4_about 122 = .ok (.invokevirtual 107, 3) := by decide +kernel
theorem dX4_about_125 : decode cX4_about 125 = .ok (.invokestatic 110, 3) := by decide +kernel
theorem dX4_about_128 : decode cX4_about 128 = .ok (.ireturn, 1) := by decide +kernel
theorem dX4_about_129 : decode cX4_about 129 = .ok (.aload_n 0, 1) := by decide +kernel
theorem dX4_about_130 : decode cX4_about 130 = .ok (.getfield 39, 3) := by decide +kernel
theorem dX4_about_133 : decode cX4_about 133 = .ok (.ireturn, 1) := by decide +kernel
theorem dX4_about_134 : decode cX4_about 134 = .ok (.aload_n 0, 1) := by decide +kernel
theorem dX4_about_135 : decode cX4_about 135 = .ok (.getfield 54, 3) := by decide +kernel
theorem dX4_about_138 : decode cX4_about 138 = .ok (.ireturn, 1) := by decide +kernel
theorem dX4_about_139 : decode cX4_about 139 = .ok (.aload_n 0, 1) := by decide +kernel
theorem dX4_about_140 : decode cX4_about 140 = .ok (.getfield 10, 3) := by decide +kernel
theorem dX4_about_143 : decode cX4_about 143 = .ok (.invokevirtual 69, 3) := by decide +kernel
theorem dX4_about_146 : decode cX4_about 146 = .ok (.ireturn, 1) := by decide +kernel
theorem dX4_about_147 : decode cX4_about 147 = .ok (.aload_n 0, 1) := by decide +kernel
theorem dX4_about_148 : decode cX4_about 148 = .ok (.getfield 28, 3) := by decide +kernel
theorem dX4_about_151 : decode cX4_about 151 = .ok (.invokevirtual 116, 3) := by decide +kernel
theorem dX4_about_154 : decode cX4_about 154 = .ok (.ifCond .eq 7, 3) := by decide +kernel
theorem dX4_about_157 : decode cX4_about 157 = .ok (.iconst 1, 1) := by decide +kernel
theorem dX4_about_158 : decode cX4_about 158 = .ok (.goto 4, 3) := by decide +kernel
theorem dX4_about_161 : decode cX4_about 161 = .ok (.iconst 0, 1) := by decide +kernel
theorem dX4_about_162 : decode cX4_about 162 = .ok (.ireturn, 1) := by decide +kernel
theorem dX4_about_163 : decode cX4_about 163 = .ok (.bipush (-2), 2) := by decide +kernel
theorem dX4_about_165 : decode cX4_about 165 = .ok (.ireturn, 1) := by decide +kernel
set_option maxRecDepth 20000 in
theorem ggX4_walker_X1_has : GoodIn wsX4_walker wsX1_has := goodIn_r _ [7, 8, 9, 10, 11, 66, 67, 68, 69, 70] (by decide +kernel) (by decide +kernel)
set_option maxRecDepth 20000 in
theorem gX4_walker_X1_has : GoodIn wsX4_walker (wsV RX4 120 RX1 yX1_has wsX1_has) := goodIn_app (goodIn_of _ (by decide +kernel)) ggX4_walker_X1_has
set_option maxRecDepth 20000 in
theorem ggX4_walker_X1_nerve : GoodIn wsX4_walker wsX1_nerve := goodIn_r _ [15, 16, 17, 18, 19, 20, 66, 67, 68, 69, 70] (by decide +kernel) (by decide +kernel)
set_option maxRecDepth 20000 in
theorem gX4_walker_X1_nerve : GoodIn wsX4_walker (wsV RX4 123 RX1 yX1_nerve wsX1_nerve) := goodIn_app (goodIn_of _ (by decide +kernel)) ggX4_walker_X1_nerve
set_option maxRecDepth 20000 in
theorem ggX4_walker_X1_kind : GoodIn wsX4_walker wsX1_kind := goodIn_r _ [24, 25, 17, 18, 19, 20, 66, 67, 68, 69, 70] (by decide +kernel) (by decide +kernel)
set_option maxRecDepth 20000 in
theorem gX4_walker_X1_kind : GoodIn wsX4_walker (wsV RX4 126 RX1 yX1_kind wsX1_kind) := goodIn_app (goodIn_of _ (by decide +kernel)) ggX4_walker_X1_kind
set_option maxRecDepth 20000 in
theorem ggX4_walker_X3_quiet : GoodIn wsX4_walker wsX3_quiet := goodIn_r _ [30, 31, 32, 18, 19, 20, 71, 72, 73, 74, 75] (by decide +kernel) (by decide +kernel)
set_option maxRecDepth 20000 in
theorem gX4_walker_X3_quiet : GoodIn wsX4_walker (wsV RX4 129 RX3 yX3_quiet wsX3_quiet) := goodIn_app (goodIn_of _ (by decide +kernel)) ggX4_walker_X3_quiet
set_option maxRecDepth 20000 in
theorem ggX4_walker_X3_indexOf : GoodIn wsX4_walker wsX3_indexOf := goodIn_r _ [36, 37, 38, 39, 29, 40, 41, 42, 43, 19, 44, 45, 18, 20, 46, 47, 48, 49, 32, 71, 72, 73, 74, 75] (by decide +kernel) (by decide +kernel)
set_option maxRecDepth 20000 in
theorem gX4_walker_X3_indexOf : GoodIn wsX4_walker (wsV RX4 132 RX3 yX3_indexOf wsX3_indexOf) := goodIn_app (goodIn_of _ (by decide +kernel)) ggX4_walker_X3_indexOf
set_option maxRecDepth 20000 in
theorem ggX4_walker_X3_behind : GoodIn wsX4_walker wsX3_behind := goodIn_r _ [53, 54, 34, 35, 29, 36, 37, 38, 39, 40, 41, 42, 43, 19, 44, 45, 18, 20, 46, 47, 48, 49, 32, 71, 72, 73, 74, 75] (by decide +kernel) (by decide +kernel)
set_option maxRecDepth 20000 in
theorem gX4_walker_X3_behind : GoodIn wsX4_walker (wsV RX4 135 RX3 yX3_behind wsX3_behind) := goodIn_app (goodIn_of _ (by decide +kernel)) ggX4_walker_X3_behind
theorem dX4_walker_0 : decode cX4_walker 0 = .ok (.aload_n 0, 1) := by decide +kernel
theorem dX4_walker_1 : decode cX4_walker 1 = .ok (.getfield 19, 3) := by decide +kernel
theorem dX4_walker_4 : decode cX4_walker 4 = .ok (.iload_n 1, 1) := by decide +kernel
theorem dX4_walker_5 : decode cX4_walker 5 = .ok (.invokevirtual 120, 3) := by decide +kernel
theorem dX4_walker_8 : decode cX4_walker 8 = .ok (.ifCond .ne 5, 3) := by decide +kernel
theorem dX4_walker_11 : decode cX4_walker 11 = .ok (.iconst (-1), 1) := by decide +kernel
theorem dX4_walker_12 : decode cX4_walker 12 = .ok (.ireturn, 1) := by decide +kernel
theorem dX4_walker_13 : decode cX4_walker 13 = .ok (.iload_n 2, 1) := by decide +kernel
theorem dX4_walker_14 : decode cX4_walker 14 = .ok (.tableswitch 79 0 4 #[34, 43, 52, 61, 70], 34) := by decide +kernel
theorem dX4_walker_48 : decode cX4_walker 48 = .ok (.aload_n 0, 1) := by decide +kernel
theorem dX4_walker_49 : decode cX4_walker 49 = .ok (.getfield 19, 3) := by decide +kernel
theorem dX4_walker_52 : decode cX4_walker 52 = .ok (.iload_n 1, 1) := by decide +kernel
theorem dX4_walker_53 : decode cX4_walker 53 = .ok (.invokevirtual 123, 3) := by decide +kernel
theorem dX4_walker_56 : decode cX4_walker 56 = .ok (.ireturn, 1) := by decide +kernel
theorem dX4_walker_57 : decode cX4_walker 57 = .ok (.aload_n 0, 1) := by decide +kernel
theorem dX4_walker_58 : decode cX4_walker 58 = .ok (.getfield 19, 3) := by decide +kernel
theorem dX4_walker_61 : decode cX4_walker 61 = .ok (.iload_n 1, 1) := by decide +kernel
theorem dX4_walker_62 : decode cX4_walker 62 = .ok (.invokevirtual 126, 3) := by decide +kernel
theorem dX4_walker_65 : decode cX4_walker 65 = .ok (.ireturn, 1) := by decide +kernel
theorem dX4_walker_66 : decode cX4_walker 66 = .ok (.aload_n 0, 1) := by decide +kernel
theorem dX4_walker_67 : decode cX4_walker 67 = .ok (.getfield 28, 3) := by decide +kernel
theorem dX4_walker_70 : decode cX4_walker 70 = .ok (.iload_n 1, 1) := by decide +kernel
theorem dX4_walker_71 : decode cX4_walker 71 = .ok (.invokevirtual 129, 3) := by decide +kernel
theorem dX4_walker_74 : decode cX4_walker 74 = .ok (.ireturn, 1) := by decide +kernel
theorem dX4_walker_75 : decode cX4_walker 75 = .ok (.aload_n 0, 1) := by decide +kernel
theorem dX4_walker_76 : decode cX4_walker 76 = .ok (.getfield 28, 3) := by decide +kernel
theorem dX4_walker_79 : decode cX4_walker 79 = .ok (.iload_n 1, 1) := by decide +kernel
theorem dX4_walker_80 : decode cX4_walker 80 = .ok (.invokevirtual 132, 3) := by decide +kernel
theorem dX4_walker_83 : decode cX4_walker 83 = .ok (.ireturn, 1) := by decide +kernel
theorem dX4_walker_84 : decode cX4_walker 84 = .ok (.aload_n 0, 1) := by decide +kernel
theorem dX4_walker_85 : decode cX4_walker 85 = .ok (.getfield 28, 3) := by decide +kernel
theorem dX4_walker_88 : decode cX4_walker 88 = .ok (.iload_n 1, 1) := by decide +kernel
theorem dX4_walker_89 : decode cX4_walker 89 = .ok (.invokevirtual 135, 3) := by decide +kernel
theorem dX4_walker_92 : decode cX4_walker 92 = .ok (.ireturn, 1) := by decide +kernel
theorem dX4_walker_93 : decode cX4_walker 93 = .ok (.bipush (-2), 2) := by decide +kernel
theorem dX4_walker_95 : decode cX4_walker 95 = .ok (.ireturn, 1) := by decide +kernel
set_option maxRecDepth 20000 in
theorem ggX4_minute_X1_everybody : GoodIn wsX4_minute wsX1_everybody := goodIn_r _ [7, 8, 111, 112, 113, 114, 115] (by decide +kernel) (by decide +kernel)
set_option maxRecDepth 20000 in
theorem gX4_minute_X1_everybody : GoodIn wsX4_minute (wsV RX4 104 RX1 yX1_everybody wsX1_everybody) := goodIn_app (goodIn_of _ (by decide +kernel)) ggX4_minute_X1_everybody
set_option maxRecDepth 20000 in
theorem ggX4_minute_X4_within : GoodIn wsX4_minute wsX4_within := goodIn_r _ [12] (by decide +kernel) (by decide +kernel)
set_option maxRecDepth 20000 in
theorem gX4_minute_X4_within : GoodIn wsX4_minute (va_wsS RX4 61 yX4_within wsX4_within) := goodIn_app (goodIn_of _ (by decide +kernel)) ggX4_minute_X4_within
set_option maxRecDepth 20000 in
theorem ggX4_minute_X3_isOut : GoodIn wsX4_minute wsX3_isOut := goodIn_r _ [17, 18, 19, 20, 21, 22, 6, 23, 24, 116, 117, 118, 119, 120, 111, 112, 113, 114, 115] (by decide +kernel) (by decide +kernel)
set_option maxRecDepth 20000 in
theorem gX4_minute_X3_isOut : GoodIn wsX4_minute (wsV RX4 116 RX3 yX3_isOut wsX3_isOut) := goodIn_app (goodIn_of _ (by decide +kernel)) ggX4_minute_X3_isOut
set_option maxRecDepth 20000 in
theorem ggX4_minute_X4_remember : GoodIn wsX4_minute wsX4_remember := goodIn_r _ [28, 29, 30, 31, 32, 33, 34, 2, 35, 36, 37, 16, 38, 18, 39, 40, 100, 101, 102, 103, 104, 105, 106, 107, 108, 109, 110, 116, 117, 118, 119, 120] (by decide +kernel) (by decide +kernel)
set_option maxRecDepth 20000 in
theorem gX4_minute_X4_remember : GoodIn wsX4_minute (wsV RX4 138 RX4 yX4_remember wsX4_remember) := goodIn_app (goodIn_of _ (by decide +kernel)) ggX4_minute_X4_remember
set_option maxRecDepth 20000 in
theorem ggX4_minute_X3_step : GoodIn wsX4_minute wsX3_step := goodIn_r _ [44, 19, 18, 45, 46, 47, 16, 48, 40, 49, 50, 51, 52, 53, 54, 55, 56, 57, 58, 59, 60, 61, 62, 63, 6, 64, 65, 66, 67, 68, 69, 70, 71, 72, 73, 74, 75, 76, 77, 78, 79, 39, 80, 81, 82, 83, 84, 85, 86, 87, 88, 89, 90, 91, 92, 93, 94, 95, 96, 97, 98, 99, 116, 117, 118, 119, 120, 111, 112, 113, 114, 115] (by decide +kernel) (by decide +kernel)
set_option maxRecDepth 20000 in
theorem gX4_minute_X3_step : GoodIn wsX4_minute (wsV RX4 141 RX3 yX3_step wsX3_step) := goodIn_app (goodIn_of _ (by decide +kernel)) ggX4_minute_X3_step
theorem dX4_minute_0 : decode cX4_minute 0 = .ok (.iload_n 1, 1) := by decide +kernel
theorem dX4_minute_1 : decode cX4_minute 1 = .ok (.iconst 0, 1) := by decide +kernel
theorem dX4_minute_2 : decode cX4_minute 2 = .ok (.aload_n 0, 1) := by decide +kernel
theorem dX4_minute_3 : decode cX4_minute 3 = .ok (.getfield 19, 3) := by decide +kernel
theorem dX4_minute_6 : decode cX4_minute 6 = .ok (.invokevirtual 104, 3) := by decide +kernel
theorem dX4_minute_9 : decode cX4_minute 9 = .ok (.invokestatic 61, 3) := by decide +kernel
theorem dX4_minute_12 : decode cX4_minute 12 = .ok (.ifCond .ne 6, 3) := by decide +kernel
theorem dX4_minute_15 : decode cX4_minute 15 = .ok (.bipush (-2), 2) := by decide +kernel
theorem dX4_minute_17 : decode cX4_minute 17 = .ok (.ireturn, 1) := by decide +kernel
theorem dX4_minute_18 : decode cX4_minute 18 = .ok (.aload_n 0, 1) := by decide +kernel
theorem dX4_minute_19 : decode cX4_minute 19 = .ok (.getfield 28, 3) := by decide +kernel
theorem dX4_minute_22 : decode cX4_minute 22 = .ok (.invokevirtual 116, 3) := by decide +kernel
theorem dX4_minute_25 : decode cX4_minute 25 = .ok (.ifCond .eq 6, 3) := by decide +kernel
theorem dX4_minute_28 : decode cX4_minute 28 = .ok (.bipush (-3), 2) := by decide +kernel
theorem dX4_minute_30 : decode cX4_minute 30 = .ok (.ireturn, 1) := by decide +kernel
theorem dX4_minute_31 : decode cX4_minute 31 = .ok (.aload_n 0, 1) := by decide +kernel
theorem dX4_minute_32 : decode cX4_minute 32 = .ok (.invokevirtual 138, 3) := by decide +kernel
theorem dX4_minute_35 : decode cX4_minute 35 = .ok (.aload_n 0, 1) := by decide +kernel
theorem dX4_minute_36 : decode cX4_minute 36 = .ok (.getfield 28, 3) := by decide +kernel
theorem dX4_minute_39 : decode cX4_minute 39 = .ok (.iload_n 1, 1) := by decide +kernel
theorem dX4_minute_40 : decode cX4_minute 40 = .ok (.invokevirtual 141, 3) := by decide +kernel
theorem dX4_minute_43 : decode cX4_minute 43 = .ok (.ireturn, 1) := by decide +kernel
set_option maxRecDepth 20000 in
theorem ggX4_change_X4_within : GoodIn wsX4_change wsX4_within := goodIn_r _ [5] (by decide +kernel) (by decide +kernel)
set_option maxRecDepth 20000 in
theorem gX4_change_X4_within : GoodIn wsX4_change (va_wsS RX4 61 yX4_within wsX4_within) := goodIn_app (goodIn_of _ (by decide +kernel)) ggX4_change_X4_within
set_option maxRecDepth 20000 in
theorem ggX4_change_X3_isOut : GoodIn wsX4_change wsX3_isOut := goodIn_r _ [10, 11, 12, 13, 14, 15, 16, 17, 18, 85, 86, 87, 88, 89, 90, 91, 92, 93, 94] (by decide +kernel) (by decide +kernel)
set_option maxRecDepth 20000 in
theorem gX4_change_X3_isOut : GoodIn wsX4_change (wsV RX4 116 RX3 yX3_isOut wsX3_isOut) := goodIn_app (goodIn_of _ (by decide +kernel)) ggX4_change_X3_isOut
set_option maxRecDepth 20000 in
theorem ggX4_change_X3_size : GoodIn wsX4_change wsX3_size := goodIn_r _ [22, 23, 24, 25, 26, 27, 28, 29, 30, 85, 86, 87, 88, 89] (by decide +kernel) (by decide +kernel)
set_option maxRecDepth 20000 in
theorem gX4_change_X3_size : GoodIn wsX4_change (wsV RX4 144 RX3 yX3_size wsX3_size) := goodIn_app (goodIn_of _ (by decide +kernel)) ggX4_change_X3_size
set_option maxRecDepth 20000 in
theorem ggX4_change_X4_remember : GoodIn wsX4_change wsX4_remember := goodIn_r _ [34, 35, 36, 37, 38, 39, 40, 1, 41, 42, 43, 9, 44, 11, 45, 23, 74, 75, 76, 77, 78, 79, 80, 81, 82, 83, 84, 85, 86, 87, 88, 89] (by decide +kernel) (by decide +kernel)
set_option maxRecDepth 20000 in
theorem gX4_change_X4_remember : GoodIn wsX4_change (wsV RX4 138 RX4 yX4_remember wsX4_remember) := goodIn_app (goodIn_of _ (by decide +kernel)) ggX4_change_X4_remember
set_option maxRecDepth 20000 in
theorem ggX4_change_X3_changePlaces : GoodIn wsX4_change wsX3_changePlaces := goodIn_r _ [49, 23, 50, 51, 26, 52, 28, 29, 30, 53, 54, 55, 56, 57, 58, 9, 59, 60, 61, 62, 63, 64, 45, 65, 85, 86, 87, 88, 89] (by decide +kernel) (by decide +kernel)
set_option maxRecDepth 20000 in
theorem gX4_change_X3_changePlaces : GoodIn wsX4_change (wsV RX4 147 RX3 yX3_changePlaces wsX3_changePlaces) := goodIn_app (goodIn_of _ (by decide +kernel)) ggX4_change_X3_changePlaces
set_option maxRecDepth 20000 in
theorem ggX4_change_X3_row : GoodIn wsX4_change wsX3_row := goodIn_r _ [69, 23, 85, 86, 87, 88, 89] (by decide +kernel) (by decide +kernel)
set_option maxRecDepth 20000 in
theorem gX4_change_X3_row : GoodIn wsX4_change (wsV RX4 107 RX3 yX3_row wsX3_row) := goodIn_app (goodIn_of _ (by decide +kernel)) ggX4_change_X3_row
set_option maxRecDepth 20000 in
theorem ggX4_change_X0_figures : GoodIn wsX4_change wsX0_figures := goodIn_r _ [72, 73, 25, 26, 27, 28, 29, 30] (by decide +kernel) (by decide +kernel)
set_option maxRecDepth 20000 in
theorem gX4_change_X0_figures : GoodIn wsX4_change (va_wsS RX4 110 yX0_figures wsX0_figures) := goodIn_app (goodIn_of _ (by decide +kernel)) ggX4_change_X0_figures
theorem dX4_change_0 : decode cX4_change 0 = .ok (.iload_n 1, 1) := by decide +kernel
theorem dX4_change_1 : decode cX4_change 1 = .ok (.iconst 0, 1) := by decide +kernel
theorem dX4_change_2 : decode cX4_change 2 = .ok (.iconst 3, 1) := by decide +kernel
theorem dX4_change_3 : decode cX4_change 3 = .ok (.invokestatic 61, 3) := by decide +kernel
theorem dX4_change_6 : decode cX4_change 6 = .ok (.ifCond .ne 6, 3) := by decide +kernel
theorem dX4_change_9 : decode cX4_change 9 = .ok (.bipush (-2), 2) := by decide +kernel
theorem dX4_change_11 : decode cX4_change 11 = .ok (.ireturn, 1) := by decide +kernel
theorem dX4_change_12 : decode cX4_change 12 = .ok (.aload_n 0, 1) := by decide +kernel
theorem dX4_change_13 : decode cX4_change 13 = .ok (.getfield 28, 3) := by decide +kernel
theorem dX4_change_16 : decode cX4_change 16 = .ok (.invokevirtual 116, 3) := by decide +kernel
theorem dX4_change_19 : decode cX4_change 19 = .ok (.ifCond .ne 16, 3) := by decide +kernel
theorem dX4_change_22 : decode cX4_change 22 = .ok (.iload_n 1, 1) := by decide +kernel
theorem dX4_change_23 : decode cX4_change 23 = .ok (.iconst 1, 1) := by decide +kernel
theorem dX4_change_24 : decode cX4_change 24 = .ok (.iadd, 1) := by decide +kernel
theorem dX4_change_25 : decode cX4_change 25 = .ok (.aload_n 0, 1) := by decide +kernel
theorem dX4_change_26 : decode cX4_change 26 = .ok (.getfield 28, 3) := by decide +kernel
theorem dX4_change_29 : decode cX4_change 29 = .ok (.invokevirtual 144, 3) := by decide +kernel
theorem dX4_change_32 : decode cX4_change 32 = .ok (.if_icmp .lt 6, 3) := by decide +kernel
theorem dX4_change_35 : decode cX4_change 35 = .ok (.bipush (-3), 2) := by decide +kernel
theorem dX4_change_37 : decode cX4_change 37 = .ok (.ireturn, 1) := by decide +kernel
theorem dX4_change_38 : decode cX4_change 38 = .ok (.aload_n 0, 1) := by decide +kernel
theorem dX4_change_39 : decode cX4_change 39 = .ok (.invokevirtual 138, 3) := by decide +kernel
theorem dX4_change_42 : decode cX4_change 42 = .ok (.aload_n 0, 1) := by decide +kernel
theorem dX4_change_43 : decode cX4_change 43 = .ok (.getfield 28, 3) := by decide +kernel
theorem dX4_change_46 : decode cX4_change 46 = .ok (.iload_n 1, 1) := by decide +kernel
theorem dX4_change_47 : decode cX4_change 47 = .ok (.invokevirtual 147, 3) := by decide +kernel
theorem dX4_change_50 : decode cX4_change 50 = .ok (.aload_n 0, 1) := by decide +kernel
theorem dX4_change_51 : decode cX4_change 51 = .ok (.getfield 28, 3) := by decide +kernel
theorem dX4_change_54 : decode cX4_change 54 = .ok (.invokevirtual 107, 3) := by decide +kernel
theorem dX4_change_57 : decode cX4_change 57 = .ok (.invokestatic 110, 3) := by decide +kernel
theorem dX4_change_60 : decode cX4_change 60 = .ok (.ireturn, 1) := by decide +kernel
set_option maxRecDepth 20000 in
theorem ggX4_rest_X3_isOut : GoodIn wsX4_rest wsX3_isOut := goodIn_r _ [6, 7, 8, 9, 10, 11, 12, 13, 14, 74, 75, 76, 77, 78, 79, 80, 81, 82, 83] (by decide +kernel) (by decide +kernel)
set_option maxRecDepth 20000 in
theorem gX4_rest_X3_isOut : GoodIn wsX4_rest (wsV RX4 116 RX3 yX3_isOut wsX3_isOut) := goodIn_app (goodIn_of _ (by decide +kernel)) ggX4_rest_X3_isOut
set_option maxRecDepth 20000 in
theorem ggX4_rest_X4_remember : GoodIn wsX4_rest wsX4_remember := goodIn_r _ [19, 20, 21, 22, 23, 24, 25, 1, 26, 27, 28, 5, 29, 7, 30, 31, 63, 64, 65, 66, 67, 68, 69, 70, 71, 72, 73, 74, 75, 76, 77, 78] (by decide +kernel) (by decide +kernel)
set_option maxRecDepth 20000 in
theorem gX4_rest_X4_remember : GoodIn wsX4_rest (wsV RX4 138 RX4 yX4_remember wsX4_remember) := goodIn_app (goodIn_of _ (by decide +kernel)) ggX4_rest_X4_remember
set_option maxRecDepth 20000 in
theorem ggX4_rest_X3_calm : GoodIn wsX4_rest wsX3_calm := goodIn_r _ [35, 36, 37, 38, 5, 39, 31, 40, 41, 42, 43, 44, 45, 46, 47, 48, 49, 50, 51, 52, 53, 54, 55, 30, 56, 57, 58, 59, 60, 61, 62, 74, 75, 76, 77, 78] (by decide +kernel) (by decide +kernel)
set_option maxRecDepth 20000 in
theorem gX4_rest_X3_calm : GoodIn wsX4_rest (wsV RX4 151 RX3 yX3_calm wsX3_calm) := goodIn_app (goodIn_of _ (by decide +kernel)) ggX4_rest_X3_calm
theorem dX4_rest_0 : decode cX4_rest 0 = .ok (.aload_n 0, 1) := by decide +kernel
theorem dX4_rest_1 : decode cX4_rest 1 = .ok (.getfield 28, 3) := by decide +kernel
theorem dX4_rest_4 : decode cX4_rest 4 = .ok (.invokevirtual 116, 3) := by decide +kernel
theorem dX4_rest_7 : decode cX4_rest 7 = .ok (.ifCond .eq 6, 3) := by decide +kernel
theorem dX4_rest_10 : decode cX4_rest 10 = .ok (.bipush (-3), 2) := by decide +kernel
theorem dX4_rest_12 : decode cX4_rest 12 = .ok (.ireturn, 1) := by decide +kernel
theorem dX4_rest_13 : decode cX4_rest 13 = .ok (.aload_n 0, 1) := by decide +kernel
theorem dX4_rest_14 : decode cX4_rest 14 = .ok (.invokevirtual 138, 3) := by decide +kernel
theorem dX4_rest_17 : decode cX4_rest 17 = .ok (.aload_n 0, 1) := by decide +kernel
theorem dX4_rest_18 : decode cX4_rest 18 = .ok (.getfield 28, 3) := by decide +kernel
theorem dX4_rest_21 : decode cX4_rest 21 = .ok (.invokevirtual 151, 3) := by decide +kernel
theorem dX4_rest_24 : decode cX4_rest 24 = .ok (.ireturn, 1) := by decide +kernel
set_option maxRecDepth 20000 in
theorem ggX4_undo_X4_within : GoodIn wsX4_undo wsX4_within := goodIn_r _ [7] (by decide +kernel) (by decide +kernel)
set_option maxRecDepth 20000 in
theorem gX4_undo_X4_within : GoodIn wsX4_undo (va_wsS RX4 61 yX4_within wsX4_within) := goodIn_app (goodIn_of _ (by decide +kernel)) ggX4_undo_X4_within
set_option maxRecDepth 20000 in
theorem ggX4_undo_X3_become : GoodIn wsX4_undo wsX3_become := goodIn_r _ [12, 13, 14, 15, 16, 28, 29, 30, 31, 32] (by decide +kernel) (by decide +kernel)
set_option maxRecDepth 20000 in
theorem gX4_undo_X3_become : GoodIn wsX4_undo (wsV RX4 154 RX3 yX3_become wsX3_become) := goodIn_app (goodIn_of _ (by decide +kernel)) ggX4_undo_X3_become
theorem dX4_undo_0 : decode cX4_undo 0 = .ok (.aload_n 0, 1) := by decide +kernel
theorem dX4_undo_1 : decode cX4_undo 1 = .ok (.getfield 39, 3) := by decide +kernel
theorem dX4_undo_4 : decode cX4_undo 4 = .ok (.iconst 1, 1) := by decide +kernel
theorem dX4_undo_5 : decode cX4_undo 5 = .ok (.aload_n 0, 1) := by decide +kernel
theorem dX4_undo_6 : decode cX4_undo 6 = .ok (.getfield 35, 3) := by decide +kernel
theorem dX4_undo_9 : decode cX4_undo 9 = .ok (.arraylength, 1) := by decide +kernel
theorem dX4_undo_10 : decode cX4_undo 10 = .ok (.invokestatic 61, 3) := by decide +kernel
theorem dX4_undo_13 : decode cX4_undo 13 = .ok (.ifCond .ne 6, 3) := by decide +kernel
theorem dX4_undo_16 : decode cX4_undo 16 = .ok (.bipush (-3), 2) := by decide +kernel
theorem dX4_undo_18 : decode cX4_undo 18 = .ok (.ireturn, 1) := by decide +kernel
theorem dX4_undo_19 : decode cX4_undo 19 = .ok (.aload_n 0, 1) := by decide +kernel
theorem dX4_undo_20 : decode cX4_undo 20 = .ok (.dup, 1) := by decide +kernel
theorem dX4_undo_21 : decode cX4_undo 21 = .ok (.getfield 39, 3) := by decide +kernel
theorem dX4_undo_24 : decode cX4_undo 24 = .ok (.iconst 1, 1) := by decide +kernel
theorem dX4_undo_25 : decode cX4_undo 25 = .ok (.isub, 1) := by decide +kernel
theorem dX4_undo_26 : decode cX4_undo 26 = .ok (.putfield 39, 3) := by decide +kernel
theorem dX4_undo_29 : decode cX4_undo 29 = .ok (.aload_n 0, 1) := by decide +kernel
theorem dX4_undo_30 : decode cX4_undo 30 = .ok (.getfield 28, 3) := by decide +kernel
theorem dX4_undo_33 : decode cX4_undo 33 = .ok (.aload_n 0, 1) := by decide +kernel
theorem dX4_undo_34 : decode cX4_undo 34 = .ok (.getfield 35, 3) := by decide +kernel
theorem dX4_undo_37 : decode cX4_undo 37 = .ok (.aload_n 0, 1) := by decide +kernel
theorem dX4_undo_38 : decode cX4_undo 38 = .ok (.getfield 39, 3) := by decide +kernel
theorem dX4_undo_41 : decode cX4_undo 41 = .ok (.laload, 1) := by decide +kernel
theorem dX4_undo_42 : decode cX4_undo 42 = .ok (.invokevirtual 154, 3) := by decide +kernel
theorem dX4_undo_45 : decode cX4_undo 45 = .ok (.aload_n 0, 1) := by decide +kernel
theorem dX4_undo_46 : decode cX4_undo 46 = .ok (.getfield 39, 3) := by decide +kernel
theorem dX4_undo_49 : decode cX4_undo 49 = .ok (.ireturn, 1) := by decide +kernel
set_option maxRecDepth 20000 in
theorem ggX4_remember_X3_state : GoodIn wsX4_remember wsX3_state := goodIn_r _ [12, 13, 14, 15, 27, 28, 29, 30, 31] (by decide +kernel) (by decide +kernel)
set_option maxRecDepth 20000 in
theorem gX4_remember_X3_state : GoodIn wsX4_remember (wsV RX4 164 RX3 yX3_state wsX3_state) := goodIn_app (goodIn_of _ (by decide +kernel)) ggX4_remember_X3_state
theorem dX4_remember_0 : decode cX4_remember 0 = .ok (.aload_n 0, 1) := by decide +kernel
theorem dX4_remember_1 : decode cX4_remember 1 = .ok (.getfield 39, 3) := by decide +kernel
theorem dX4_remember_4 : decode cX4_remember 4 = .ok (.aload_n 0, 1) := by decide +kernel
theorem dX4_remember_5 : decode cX4_remember 5 = .ok (.getfield 35, 3) := by decide +kernel
theorem dX4_remember_8 : decode cX4_remember 8 = .ok (.arraylength, 1) := by decide +kernel
theorem dX4_remember_9 : decode cX4_remember 9 = .ok (.if_icmp .lt 34, 3) := by decide +kernel
theorem dX4_remember_12 : decode cX4_remember 12 = .ok (.aload_n 0, 1) := by decide +kernel
theorem dX4_remember_13 : decode cX4_remember 13 = .ok (.getfield 35, 3) := by decide +kernel
theorem dX4_remember_16 : decode cX4_remember 16 = .ok (.iconst 1, 1) := by decide +kernel
theorem dX4_remember_17 : decode cX4_remember 17 = .ok (.aload_n 0, 1) := by decide +kernel
theorem dX4_remember_18 : decode cX4_remember 18 = .ok (.getfield 35, 3) := by decide +kernel
theorem dX4_remember_21 : decode cX4_remember 21 = .ok (.iconst 0, 1) := by decide +kernel
theorem dX4_remember_22 : decode cX4_remember 22 = .ok (.aload_n 0, 1) := by decide +kernel
theorem dX4_remember_23 : decode cX4_remember 23 = .ok (.getfield 35, 3) := by decide +kernel
theorem dX4_remember_26 : decode cX4_remember 26 = .ok (.arraylength, 1) := by decide +kernel
theorem dX4_remember_27 : decode cX4_remember 27 = .ok (.iconst 1, 1) := by decide +kernel
theorem dX4_remember_28 : decode cX4_remember 28 = .ok (.isub, 1) := by decide +kernel
theorem dX4_remember_29 : decode cX4_remember 29 = .ok (.invokestatic 158, 3) := by decide +kernel
theorem dX4_remember_32 : decode cX4_remember 32 = .ok (.aload_n 0, 1) := by decide +kernel
theorem dX4_remember_33 : decode cX4_remember 33 = .ok (.aload_n 0, 1) := by decide +kernel
theorem dX4_remember_34 : decode cX4_remember 34 = .ok (.getfield 35, 3) := by decide +kernel
theorem dX4_remember_37 : decode cX4_remember 37 = .ok (.arraylength, 1) := by decide +kernel
theorem dX4_remember_38 : decode cX4_remember 38 = .ok (.iconst 1, 1) := by decide +kernel
theorem dX4_remember_39 : decode cX4_remember 39 = .ok (.isub, 1) := by decide +kernel
theorem dX4_remember_40 : decode cX4_remember 40 = .ok (.putfield 39, 3) := by decide +kernel
theorem dX4_remember_43 : decode cX4_remember 43 = .ok (.aload_n 0, 1) := by decide +kernel
theorem dX4_remember_44 : decode cX4_remember 44 = .ok (.getfield 39, 3) := by decide +kernel
theorem dX4_remember_47 : decode cX4_remember 47 = .ok (.ifCond .lt 29, 3) := by decide +kernel
theorem dX4_remember_50 : decode cX4_remember 50 = .ok (.aload_n 0, 1) := by decide +kernel
theorem dX4_remember_51 : decode cX4_remember 51 = .ok (.getfield 35, 3) := by decide +kernel
theorem dX4_remember_54 : decode cX4_remember 54 = .ok (.aload_n 0, 1) := by decide +kernel
theorem dX4_remember_55 : decode cX4_remember 55 = .ok (.getfield 39, 3) := by decide +kernel
theorem dX4_remember_58 : decode cX4_remember 58 = .ok (.aload_n 0, 1) := by decide +kernel
theorem dX4_remember_59 : decode cX4_remember 59 = .ok (.getfield 28, 3) := by decide +kernel
theorem dX4_remember_62 : decode cX4_remember 62 = .ok (.invokevirtual 164, 3) := by decide +kernel
theorem dX4_remember_65 : decode cX4_remember 65 = .ok (.lastore, 1) := by decide +kernel
theorem dX4_remember_66 : decode cX4_remember 66 = .ok (.aload_n 0, 1) := by decide +kernel
theorem dX4_remember_67 : decode cX4_remember 67 = .ok (.dup, 1) := by decide +kernel
theorem dX4_remember_68 : decode cX4_remember 68 = .ok (.getfield 39, 3) := by decide +kernel
theorem dX4_remember_71 : decode cX4_remember 71 = .ok (.iconst 1, 1) := by decide +kernel
theorem dX4_remember_72 : decode cX4_remember 72 = .ok (.iadd, 1) := by decide +kernel
theorem dX4_remember_73 : decode cX4_remember 73 = .ok (.putfield 39, 3) := by decide +kernel
theorem dX4_remember_76 : decode cX4_remember 76 = .ok (.return_, 1) := by decide +kernel
set_option maxRecDepth 20000 in
theorem ggX4_left_X4_isSong : GoodIn wsX4_left wsX4_isSong := goodIn_r _ [6, 7, 8, 9, 10, 5, 11] (by decide +kernel) (by decide +kernel)
set_option maxRecDepth 20000 in
theorem gX4_left_X4_isSong : GoodIn wsX4_left (va_wsS RX4 168 yX4_isSong wsX4_isSong) := goodIn_app (goodIn_of _ (by decide +kernel)) ggX4_left_X4_isSong
set_option maxRecDepth 20000 in
theorem ggX4_left_X3_state : GoodIn wsX4_left wsX3_state := goodIn_r _ [16, 17, 18, 19, 122, 123, 124, 125, 126] (by decide +kernel) (by decide +kernel)
set_option maxRecDepth 20000 in
theorem gX4_left_X3_state : GoodIn wsX4_left (wsV RX4 164 RX3 yX3_state wsX3_state) := goodIn_app (goodIn_of _ (by decide +kernel)) ggX4_left_X3_state
set_option maxRecDepth 20000 in
theorem ggX4_left_X3_become : GoodIn wsX4_left wsX3_become := goodIn_r _ [23, 24, 19, 18, 17, 122, 123, 124, 125, 126] (by decide +kernel) (by decide +kernel)
set_option maxRecDepth 20000 in
theorem gX4_left_X3_become : GoodIn wsX4_left (wsV RX4 154 RX3 yX3_become wsX3_become) := goodIn_app (goodIn_of _ (by decide +kernel)) ggX4_left_X3_become
set_option maxRecDepth 20000 in
theorem ggX4_left_X3_sing : GoodIn wsX4_left wsX3_sing := goodIn_r _ [28, 29, 30, 31, 32, 15, 33, 17, 34, 35, 36, 37, 38, 39, 40, 41, 42, 43, 44, 45, 46, 47, 48, 49, 50, 51, 52, 19, 53, 54, 55, 56, 57, 58, 59, 60, 61, 62, 63, 64, 65, 66, 67, 68, 69, 70, 71, 72, 73, 74, 75, 76, 77, 78, 79, 80, 81, 82, 83, 18, 84, 85, 86, 87, 88, 89, 90, 91, 92, 93, 94, 95, 96, 97, 98, 99, 100, 101, 102, 122, 123, 124, 125, 126, 127, 128, 129, 130, 131] (by decide +kernel) (by decide +kernel)
set_option maxRecDepth 20000 in
theorem gX4_left_X3_sing : GoodIn wsX4_left (wsV RX4 172 RX3 yX3_sing wsX3_sing) := goodIn_app (goodIn_of _ (by decide +kernel)) ggX4_left_X3_sing
set_option maxRecDepth 20000 in
theorem ggX4_left_X3_members : GoodIn wsX4_left wsX3_members := goodIn_r _ [106, 19, 107, 108, 55, 109, 110, 54, 56, 57, 58, 59, 122, 123, 124, 125, 126] (by decide +kernel) (by decide +kernel)
set_option maxRecDepth 20000 in
theorem gX4_left_X3_members : GoodIn wsX4_left (wsV RX4 101 RX3 yX3_members wsX3_members) := goodIn_app (goodIn_of _ (by decide +kernel)) ggX4_left_X3_members
theorem dX4_left_0 : decode cX4_left 0 = .ok (.iload_n 1, 1) := by decide +kernel
theorem dX4_left_1 : decode cX4_left 1 = .ok (.lload_n 2, 1) := by decide +kernel
theorem dX4_left_2 : decode cX4_left 2 = .ok (.invokestatic 168, 3) := by decide +kernel
theorem dX4_left_5 : decode cX4_left 5 = .ok (.ifCond .ne 6, 3) := by decide +kernel
theorem dX4_left_8 : decode cX4_left 8 = .ok (.bipush (-2), 2) := by decide +kernel
theorem dX4_left_10 : decode cX4_left 10 = .ok (.ireturn, 1) := by decide +kernel
theorem dX4_left_11 : decode cX4_left 11 = .ok (.aload_n 0, 1) := by decide +kernel
theorem dX4_left_12 : decode cX4_left 12 = .ok (.getfield 32, 3) := by decide +kernel
theorem dX4_left_15 : decode cX4_left 15 = .ok (.aload_n 0, 1) := by decide +kernel
theorem dX4_left_16 : decode cX4_left 16 = .ok (.getfield 28, 3) := by decide +kernel
theorem dX4_left_19 : decode cX4_left 19 = .ok (.invokevirtual 164, 3) := by decide +kernel
theorem dX4_left_22 : decode cX4_left 22 = .ok (.invokevirtual 154, 3) := by decide +kernel
theorem dX4_left_25 : decode cX4_left 25 = .ok (.aload_n 0, 1) := by decide +kernel
theorem dX4_left_26 : decode cX4_left 26 = .ok (.getfield 32, 3) := by decide +kernel
theorem dX4_left_29 : decode cX4_left 29 = .ok (.iload_n 1, 1) := by decide +kernel
theorem dX4_left_30 : decode cX4_left 30 = .ok (.lload_n 2, 1) := by decide +kernel
theorem dX4_left_31 : decode cX4_left 31 = .ok (.invokevirtual 172, 3) := by decide +kernel
theorem dX4_left_34 : decode cX4_left 34 = .ok (.pop, 1) := by decide +kernel
theorem dX4_left_35 : decode cX4_left 35 = .ok (.aload_n 0, 1) := by decide +kernel
theorem dX4_left_36 : decode cX4_left 36 = .ok (.getfield 32, 3) := by decide +kernel
theorem dX4_left_39 : decode cX4_left 39 = .ok (.invokevirtual 101, 3) := by decide +kernel
theorem dX4_left_42 : decode cX4_left 42 = .ok (.ireturn, 1) := by decide +kernel
set_option maxRecDepth 20000 in
theorem ggX4_firstTurn_X4_isSong : GoodIn wsX4_firstTurn wsX4_isSong := goodIn_r _ [6, 7, 8, 9, 10, 5, 11] (by decide +kernel) (by decide +kernel)
set_option maxRecDepth 20000 in
theorem gX4_firstTurn_X4_isSong : GoodIn wsX4_firstTurn (va_wsS RX4 168 yX4_isSong wsX4_isSong) := goodIn_app (goodIn_of _ (by decide +kernel)) ggX4_firstTurn_X4_isSong
set_option maxRecDepth 20000 in
theorem ggX4_firstTurn_X3_state : GoodIn wsX4_firstTurn wsX3_state := goodIn_r _ [16, 17, 18, 19, 114, 115, 116, 117, 118] (by decide +kernel) (by decide +kernel)
set_option maxRecDepth 20000 in
theorem gX4_firstTurn_X3_state : GoodIn wsX4_firstTurn (wsV RX4 164 RX3 yX3_state wsX3_state) := goodIn_app (goodIn_of _ (by decide +kernel)) ggX4_firstTurn_X3_state
set_option maxRecDepth 20000 in
theorem ggX4_firstTurn_X3_become : GoodIn wsX4_firstTurn wsX3_become := goodIn_r _ [23, 24, 19, 18, 17, 114, 115, 116, 117, 118] (by decide +kernel) (by decide +kernel)
set_option maxRecDepth 20000 in
theorem gX4_firstTurn_X3_become : GoodIn wsX4_firstTurn (wsV RX4 154 RX3 yX3_become wsX3_become) := goodIn_app (goodIn_of _ (by decide +kernel)) ggX4_firstTurn_X3_become
set_option maxRecDepth 20000 in
theorem ggX4_firstTurn_X3_sing : GoodIn wsX4_firstTurn wsX3_sing := goodIn_r _ [28, 29, 30, 31, 32, 15, 33, 17, 34, 35, 36, 37, 38, 39, 40, 41, 42, 43, 44, 45, 46, 47, 48, 49, 50, 51, 52, 19, 53, 54, 55, 56, 57, 58, 59, 60, 61, 62, 63, 64, 65, 66, 67, 68, 69, 70, 71, 72, 73, 74, 75, 76, 77, 78, 79, 80, 81, 82, 83, 18, 84, 85, 86, 87, 88, 89, 90, 91, 92, 93, 94, 95, 96, 97, 98, 99, 100, 101, 102, 114, 115, 116, 117, 118, 119, 120, 121, 122, 123] (by decide +kernel) (by decide +kernel)
set_option maxRecDepth 20000 in
theorem gX4_firstTurn_X3_sing : GoodIn wsX4_firstTurn (wsV RX4 172 RX3 yX3_sing wsX3_sing) := goodIn_app (goodIn_of _ (by decide +kernel)) ggX4_firstTurn_X3_sing
theorem dX4_firstTurn_0 : decode cX4_firstTurn 0 = .ok (.iload_n 1, 1) := by decide +kernel
theorem dX4_firstTurn_1 : decode cX4_firstTurn 1 = .ok (.lload_n 2, 1) := by decide +kernel
theorem dX4_firstTurn_2 : decode cX4_firstTurn 2 = .ok (.invokestatic 168, 3) := by decide +kernel
theorem dX4_firstTurn_5 : decode cX4_firstTurn 5 = .ok (.ifCond .ne 6, 3) := by decide +kernel
theorem dX4_firstTurn_8 : decode cX4_firstTurn 8 = .ok (.bipush (-2), 2) := by decide +kernel
theorem dX4_firstTurn_10 : decode cX4_firstTurn 10 = .ok (.ireturn, 1) := by decide +kernel
theorem dX4_firstTurn_11 : decode cX4_firstTurn 11 = .ok (.aload_n 0, 1) := by decide +kernel
theorem dX4_firstTurn_12 : decode cX4_firstTurn 12 = .ok (.getfield 32, 3) := by decide +kernel
theorem dX4_firstTurn_15 : decode cX4_firstTurn 15 = .ok (.aload_n 0, 1) := by decide +kernel
theorem dX4_firstTurn_16 : decode cX4_firstTurn 16 = .ok (.getfield 28, 3) := by decide +kernel
theorem dX4_firstTurn_19 : decode cX4_firstTurn 19 = .ok (.invokevirtual 164, 3) := by decide +kernel
theorem dX4_firstTurn_22 : decode cX4_firstTurn 22 = .ok (.invokevirtual 154, 3) := by decide +kernel
theorem dX4_firstTurn_25 : decode cX4_firstTurn 25 = .ok (.aload_n 0, 1) := by decide +kernel
theorem dX4_firstTurn_26 : decode cX4_firstTurn 26 = .ok (.getfield 32, 3) := by decide +kernel
theorem dX4_firstTurn_29 : decode cX4_firstTurn 29 = .ok (.iload_n 1, 1) := by decide +kernel
theorem dX4_firstTurn_30 : decode cX4_firstTurn 30 = .ok (.lload_n 2, 1) := by decide +kernel
theorem dX4_firstTurn_31 : decode cX4_firstTurn 31 = .ok (.invokevirtual 172, 3) := by decide +kernel
theorem dX4_firstTurn_34 : decode cX4_firstTurn 34 = .ok (.ireturn, 1) := by decide +kernel
set_option maxRecDepth 20000 in
theorem ggX4_order_X4_isSong : GoodIn wsX4_order wsX4_isSong := goodIn_r _ [5, 6, 7, 8, 9, 4, 10] (by decide +kernel) (by decide +kernel)
set_option maxRecDepth 20000 in
theorem gX4_order_X4_isSong : GoodIn wsX4_order (va_wsS RX4 168 yX4_isSong wsX4_isSong) := goodIn_app (goodIn_of _ (by decide +kernel)) ggX4_order_X4_isSong
set_option maxRecDepth 20000 in
theorem ggX4_order_X4_within : GoodIn wsX4_order wsX4_within := goodIn_r _ [10] (by decide +kernel) (by decide +kernel)
set_option maxRecDepth 20000 in
theorem gX4_order_X4_within : GoodIn wsX4_order (va_wsS RX4 61 yX4_within wsX4_within) := goodIn_app (goodIn_of _ (by decide +kernel)) ggX4_order_X4_within
set_option maxRecDepth 20000 in
theorem ggX4_order_X3_members : GoodIn wsX4_order wsX3_members := goodIn_r _ [15, 16, 17, 18, 19, 20, 21, 22, 23, 24, 25, 26, 139, 140, 141, 142, 143] (by decide +kernel) (by decide +kernel)
set_option maxRecDepth 20000 in
theorem gX4_order_X3_members : GoodIn wsX4_order (wsV RX4 101 RX3 yX3_members wsX3_members) := goodIn_app (goodIn_of _ (by decide +kernel)) ggX4_order_X3_members
set_option maxRecDepth 20000 in
theorem ggX4_order_X0_ascending : GoodIn wsX4_order wsX0_ascending := goodIn_r _ [29, 30, 31, 19, 32] (by decide +kernel) (by decide +kernel)
set_option maxRecDepth 20000 in
theorem gX4_order_X0_ascending : GoodIn wsX4_order (va_wsS RX4 176 yX0_ascending wsX0_ascending) := goodIn_app (goodIn_of _ (by decide +kernel)) ggX4_order_X0_ascending
set_option maxRecDepth 20000 in
theorem ggX4_order_X4_leftOf : GoodIn wsX4_order wsX4_leftOf := goodIn_r _ [36, 37, 1, 38, 39, 40, 14, 41, 42, 43, 44, 45, 46, 16, 47, 48, 49, 50, 51, 52, 53, 54, 55, 56, 57, 58, 59, 60, 61, 62, 63, 64, 65, 66, 67, 68, 69, 70, 71, 72, 73, 74, 75, 76, 22, 19, 23, 24, 25, 26, 77, 78, 79, 80, 81, 82, 83, 84, 85, 86, 87, 88, 89, 90, 91, 92, 93, 94, 95, 96, 97, 98, 99, 100, 101, 102, 103, 104, 105, 31, 32, 106, 107, 108, 109, 110, 111, 112, 113, 114, 115, 116, 117, 118, 128, 129, 130, 131, 132, 133, 134, 135, 136, 137, 138, 139, 140, 141, 142, 143, 144, 145, 146, 147, 148] (by decide +kernel) (by decide +kernel)
set_option maxRecDepth 20000 in
theorem gX4_order_X4_leftOf : GoodIn wsX4_order (wsV RX4 179 RX4 yX4_leftOf wsX4_leftOf) := goodIn_app (goodIn_of _ (by decide +kernel)) ggX4_order_X4_leftOf
set_option maxRecDepth 20000 in
theorem ggX4_order_X0_nextOrder : GoodIn wsX4_order wsX0_nextOrder := goodIn_r _ [121, 21, 22, 19, 23, 24, 25, 26, 122, 123, 124, 30, 31, 32] (by decide +kernel) (by decide +kernel)
set_option maxRecDepth 20000 in
theorem gX4_order_X0_nextOrder : GoodIn wsX4_order (va_wsS RX4 183 yX0_nextOrder wsX0_nextOrder) := goodIn_app (goodIn_of _ (by decide +kernel)) ggX4_order_X0_nextOrder
set_option maxRecDepth 20000 in
theorem ggX4_order_X0_figures : GoodIn wsX4_order wsX0_figures := goodIn_r _ [127, 21, 22, 19, 23, 24, 25, 26] (by decide +kernel) (by decide +kernel)
set_option maxRecDepth 20000 in
theorem gX4_order_X0_figures : GoodIn wsX4_order (va_wsS RX4 110 yX0_figures wsX0_figures) := goodIn_app (goodIn_of _ (by decide +kernel)) ggX4_order_X0_figures
theorem dX4_order_0 : decode cX4_order 0 = .ok (.iload_n 1, 1) := by decide +kernel
theorem dX4_order_1 : decode cX4_order 1 = .ok (.lload_n 2, 1) := by decide +kernel
theorem dX4_order_2 : decode cX4_order 2 = .ok (.invokestatic 168, 3) := by decide +kernel
theorem dX4_order_5 : decode cX4_order 5 = .ok (.ifCond .eq 13, 3) := by decide +kernel
theorem dX4_order_8 : decode cX4_order 8 = .ok (.iload 4, 2) := by decide +kernel
theorem dX4_order_10 : decode cX4_order 10 = .ok (.iconst 0, 1) := by decide +kernel
theorem dX4_order_11 : decode cX4_order 11 = .ok (.iconst 1, 1) := by decide +kernel
theorem dX4_order_12 : decode cX4_order 12 = .ok (.invokestatic 61, 3) := by decide +kernel
theorem dX4_order_15 : decode cX4_order 15 = .ok (.ifCond .ne 6, 3) := by decide +kernel
theorem dX4_order_18 : decode cX4_order 18 = .ok (.bipush (-2), 2) := by decide +kernel
theorem dX4_order_20 : decode cX4_order 20 = .ok (.ireturn, 1) := by decide +kernel
theorem dX4_order_21 : decode cX4_order 21 = .ok (.aload_n 0, 1) := by decide +kernel
theorem dX4_order_22 : decode cX4_order 22 = .ok (.getfield 28, 3) := by decide +kernel
theorem dX4_order_25 : decode cX4_order 25 = .ok (.invokevirtual 101, 3) := by decide +kernel
theorem dX4_order_28 : decode cX4_order 28 = .ok (.invokestatic 176, 3) := by decide +kernel
theorem dX4_order_31 : decode cX4_order 31 = .ok (.istore 5, 2) := by decide +kernel
theorem dX4_order_33 : decode cX4_order 33 = .ok (.aload_n 0, 1) := by decide +kernel
theorem dX4_order_34 : decode cX4_order 34 = .ok (.iload 5, 2) := by decide +kernel
theorem dX4_order_36 : decode cX4_order 36 = .ok (.iload_n 1, 1) := by decide +kernel
theorem dX4_order_37 : decode cX4_order 37 = .ok (.lload_n 2, 1) := by decide +kernel
theorem dX4_order_38 : decode cX4_order 38 = .ok (.invokevirtual 179, 3) := by decide +kernel
theorem dX4_order_41 : decode cX4_order 41 = .ok (.istore 6, 2) := by decide +kernel
theorem dX4_order_43 : decode cX4_order 43 = .ok (.iload 5, 2) := by decide +kernel
theorem dX4_order_45 : decode cX4_order 45 = .ok (.invokestatic 183, 3) := by decide +kernel
theorem dX4_order_48 : decode cX4_order 48 = .ok (.istore 7, 2) := by decide +kernel
theorem dX4_order_50 : decode cX4_order 50 = .ok (.iconst 1, 1) := by decide +kernel
theorem dX4_order_51 : decode cX4_order 51 = .ok (.istore 8, 2) := by decide +kernel
theorem dX4_order_53 : decode cX4_order 53 = .ok (.iload 8, 2) := by decide +kernel
theorem dX4_order_55 : decode cX4_order 55 = .ok (.bipush 120, 2) := by decide +kernel
theorem dX4_order_57 : decode cX4_order 57 = .ok (.if_icmp .ge 46, 3) := by decide +kernel
theorem dX4_order_60 : decode cX4_order 60 = .ok (.iload 7, 2) := by decide +kernel
theorem dX4_order_62 : decode cX4_order 62 = .ok (.ifCond .eq 41, 3) := by decide +kernel
theorem dX4_order_65 : decode cX4_order 65 = .ok (.aload_n 0, 1) := by decide +kernel
theorem dX4_order_66 : decode cX4_order 66 = .ok (.iload 7, 2) := by decide +kernel
theorem dX4_order_68 : decode cX4_order 68 = .ok (.iload_n 1, 1) := by decide +kernel
theorem dX4_order_69 : decode cX4_order 69 = .ok (.lload_n 2, 1) := by decide +kernel
theorem dX4_order_70 : decode cX4_order 70 = .ok (.invokevirtual 179, 3) := by decide +kernel
theorem dX4_order_73 : decode cX4_order 73 = .ok (.istore 9, 2) := by decide +kernel
theorem dX4_order_75 : decode cX4_order 75 = .ok (.iload 9, 2) := by decide +kernel
theorem dX4_order_77 : decode cX4_order 77 = .ok (.iload 6, 2) := by decide +kernel
theorem dX4_order_79 : decode cX4_order 79 = .ok (.if_icmp .le 11, 3) := by decide +kernel
theorem dX4_order_82 : decode cX4_order 82 = .ok (.iload 9, 2) := by decide +kernel
theorem dX4_order_84 : decode cX4_order 84 = .ok (.istore 6, 2) := by decide +kernel
theorem dX4_order_86 : decode cX4_order 86 = .ok (.iload 7, 2) := by decide +kernel
theorem dX4_order_88 : decode cX4_order 88 = .ok (.istore 5, 2) := by decide +kernel
theorem dX4_order_90 : decode cX4_order 90 = .ok (.iload 7, 2) := by decide +kernel
theorem dX4_order_92 : decode cX4_order 92 = .ok (.invokestatic 183, 3) := by decide +kernel
theorem dX4_order_95 : decode cX4_order 95 = .ok (.istore 7, 2) := by decide +kernel
theorem dX4_order_97 : decode cX4_order 97 = .ok (.iinc 8 1, 3) := by decide +kernel
theorem dX4_order_100 : decode cX4_order 100 = .ok (.goto (-47), 3) := by decide +kernel
theorem dX4_order_103 : decode cX4_order 103 = .ok (.iload 4, 2) := by decide +kernel
theorem dX4_order_105 : decode cX4_order 105 = .ok (.ifCond .ne 11, 3) := by decide +kernel
theorem dX4_order_108 : decode cX4_order 108 = .ok (.iload 5, 2) := by decide +kernel
theorem dX4_order_110 : decode cX4_order 110 = .ok (.invokestatic 110, 3) := by decide +kernel
theorem dX4_order_113 : decode cX4_order 113 = .ok (.goto 5, 3) := by decide +kernel
theorem dX4_order_116 : decode cX4_order 116 = .ok (.iload 6, 2) := by decide +kernel
theorem dX4_order_118 : decode cX4_order 118 = .ok (.ireturn, 1) := by decide +kernel
set_option maxRecDepth 20000 in
theorem ggX4_share_X1_has : GoodIn wsX4_share wsX1_has := goodIn_r _ [7, 8, 9, 10, 11, 160, 161, 162, 163, 164] (by decide +kernel) (by decide +kernel)
set_option maxRecDepth 20000 in
theorem gX4_share_X1_has : GoodIn wsX4_share (wsV RX4 120 RX1 yX1_has wsX1_has) := goodIn_app (goodIn_of _ (by decide +kernel)) ggX4_share_X1_has
set_option maxRecDepth 20000 in
theorem ggX4_share_X4_isSong : GoodIn wsX4_share wsX4_isSong := goodIn_r _ [14, 15, 16, 17, 9, 10, 11] (by decide +kernel) (by decide +kernel)
set_option maxRecDepth 20000 in
theorem gX4_share_X4_isSong : GoodIn wsX4_share (va_wsS RX4 168 yX4_isSong wsX4_isSong) := goodIn_app (goodIn_of _ (by decide +kernel)) ggX4_share_X4_isSong
set_option maxRecDepth 20000 in
theorem ggX4_share_X3_row : GoodIn wsX4_share wsX3_row := goodIn_r _ [22, 23, 165, 166, 167, 168, 169] (by decide +kernel) (by decide +kernel)
set_option maxRecDepth 20000 in
theorem gX4_share_X3_row : GoodIn wsX4_share (wsV RX4 107 RX3 yX3_row wsX3_row) := goodIn_app (goodIn_of _ (by decide +kernel)) ggX4_share_X3_row
set_option maxRecDepth 20000 in
theorem ggX4_share_X3_members : GoodIn wsX4_share wsX3_members := goodIn_r _ [27, 23, 28, 29, 30, 31, 32, 33, 34, 35, 36, 37, 165, 166, 167, 168, 169] (by decide +kernel) (by decide +kernel)
set_option maxRecDepth 20000 in
theorem gX4_share_X3_members : GoodIn wsX4_share (wsV RX4 101 RX3 yX3_members wsX3_members) := goodIn_app (goodIn_of _ (by decide +kernel)) ggX4_share_X3_members
set_option maxRecDepth 20000 in
theorem ggX4_share_X4_fraction : GoodIn wsX4_share wsX4_fraction := goodIn_r _ [40, 41, 42, 43, 44, 45, 46, 10, 47] (by decide +kernel) (by decide +kernel)
set_option maxRecDepth 20000 in
theorem gX4_share_X4_fraction : GoodIn wsX4_share (va_wsS RX4 186 yX4_fraction wsX4_fraction) := goodIn_app (goodIn_of _ (by decide +kernel)) ggX4_share_X4_fraction
set_option maxRecDepth 20000 in
theorem ggX4_share_X3_size : GoodIn wsX4_share wsX3_size := goodIn_r _ [51, 23, 52, 33, 30, 34, 35, 36, 37, 165, 166, 167, 168, 169] (by decide +kernel) (by decide +kernel)
set_option maxRecDepth 20000 in
theorem gX4_share_X3_size : GoodIn wsX4_share (wsV RX4 144 RX3 yX3_size wsX3_size) := goodIn_app (goodIn_of _ (by decide +kernel)) ggX4_share_X3_size
set_option maxRecDepth 20000 in
theorem ggX4_share_J6_bitCount_0f7a4 : GoodIn wsX4_share wsJ6_bitCount_0f7a4 := goodIn_r _ [56, 57, 58, 59] (by decide +kernel) (by decide +kernel)
set_option maxRecDepth 20000 in
theorem gX4_share_J6_bitCount_0f7a4 : GoodIn wsX4_share (va_wsS RX4 190 yJ6_bitCount_0f7a4 wsJ6_bitCount_0f7a4) := goodIn_app (goodIn_of _ (by decide +kernel)) ggX4_share_J6_bitCount_0f7a4
set_option maxRecDepth 20000 in
theorem ggX4_share_X0_only : GoodIn wsX4_share wsX0_only := goodIn_r _ [62, 32, 33, 30, 34, 35, 36, 37, 63, 64, 65] (by decide +kernel) (by decide +kernel)
set_option maxRecDepth 20000 in
theorem gX4_share_X0_only : GoodIn wsX4_share (va_wsS RX4 195 yX0_only wsX0_only) := goodIn_app (goodIn_of _ (by decide +kernel)) ggX4_share_X0_only
set_option maxRecDepth 20000 in
theorem ggX4_share_X4_leftOf : GoodIn wsX4_share wsX4_leftOf := goodIn_r _ [69, 70, 2, 71, 72, 73, 21, 74, 75, 76, 77, 78, 79, 23, 80, 81, 82, 83, 84, 85, 86, 87, 88, 89, 90, 91, 92, 93, 6, 94, 95, 96, 97, 98, 99, 100, 101, 102, 103, 104, 49, 50, 51, 52, 33, 30, 34, 35, 36, 37, 105, 106, 107, 108, 109, 110, 111, 112, 113, 114, 115, 116, 117, 118, 119, 120, 121, 122, 123, 124, 125, 126, 127, 128, 129, 130, 131, 132, 133, 134, 135, 136, 137, 138, 139, 140, 141, 142, 143, 144, 145, 64, 65, 48, 149, 150, 151, 152, 153, 154, 155, 156, 157, 158, 159, 165, 166, 167, 168, 169, 160, 161, 162, 163, 164] (by decide +kernel) (by decide +kernel)
set_option maxRecDepth 20000 in
theorem gX4_share_X4_leftOf : GoodIn wsX4_share (wsV RX4 179 RX4 yX4_leftOf wsX4_leftOf) := goodIn_app (goodIn_of _ (by decide +kernel)) ggX4_share_X4_leftOf
set_option maxRecDepth 20000 in
theorem ggX4_share_X4_factorial : GoodIn wsX4_share wsX4_factorial := goodIn_r _ [148] (by decide +kernel) (by decide +kernel)
set_option maxRecDepth 20000 in
theorem gX4_share_X4_factorial : GoodIn wsX4_share (va_wsS RX4 199 yX4_factorial wsX4_factorial) := goodIn_app (goodIn_of _ (by decide +kernel)) ggX4_share_X4_factorial
theorem dX4_share_0 : decode cX4_share 0 = .ok (.aload_n 0, 1) := by decide +kernel
theorem dX4_share_1 : decode cX4_share 1 = .ok (.getfield 19, 3) := by decide +kernel
theorem dX4_share_4 : decode cX4_share 4 = .ok (.iload_n 1, 1) := by decide +kernel
theorem dX4_share_5 : decode cX4_share 5 = .ok (.invokevirtual 120, 3) := by decide +kernel
theorem dX4_share_8 : decode cX4_share 8 = .ok (.ifCond .ne 5, 3) := by decide +kernel
theorem dX4_share_11 : decode cX4_share 11 = .ok (.iconst (-1), 1) := by decide +kernel
theorem dX4_share_12 : decode cX4_share 12 = .ok (.ireturn, 1) := by decide +kernel
theorem dX4_share_13 : decode cX4_share 13 = .ok (.iload_n 2, 1) := by decide +kernel
theorem dX4_share_14 : decode cX4_share 14 = .ok (.lload_n 3, 1) := by decide +kernel
theorem dX4_share_15 : decode cX4_share 15 = .ok (.invokestatic 168, 3) := by decide +kernel
theorem dX4_share_18 : decode cX4_share 18 = .ok (.ifCond .ne 6, 3) := by decide +kernel
theorem dX4_share_21 : decode cX4_share 21 = .ok (.bipush (-2), 2) := by decide +kernel
theorem dX4_share_23 : decode cX4_share 23 = .ok (.ireturn, 1) := by decide +kernel
theorem dX4_share_24 : decode cX4_share 24 = .ok (.aload_n 0, 1) := by decide +kernel
theorem dX4_share_25 : decode cX4_share 25 = .ok (.getfield 28, 3) := by decide +kernel
theorem dX4_share_28 : decode cX4_share 28 = .ok (.invokevirtual 107, 3) := by decide +kernel
theorem dX4_share_31 : decode cX4_share 31 = .ok (.istore 6, 2) := by decide +kernel
theorem dX4_share_33 : decode cX4_share 33 = .ok (.aload_n 0, 1) := by decide +kernel
theorem dX4_share_34 : decode cX4_share 34 = .ok (.getfield 28, 3) := by decide +kernel
theorem dX4_share_37 : decode cX4_share 37 = .ok (.invokevirtual 101, 3) := by decide +kernel
theorem dX4_share_40 : decode cX4_share 40 = .ok (.iconst 1, 1) := by decide +kernel
theorem dX4_share_41 : decode cX4_share 41 = .ok (.iload_n 1, 1) := by decide +kernel
theorem dX4_share_42 : decode cX4_share 42 = .ok (.ishl, 1) := by decide +kernel
theorem dX4_share_43 : decode cX4_share 43 = .ok (.iconst (-1), 1) := by decide +kernel
theorem dX4_share_44 : decode cX4_share 44 = .ok (.ixor, 1) := by decide +kernel
theorem dX4_share_45 : decode cX4_share 45 = .ok (.iand, 1) := by decide +kernel
theorem dX4_share_46 : decode cX4_share 46 = .ok (.istore 7, 2) := by decide +kernel
theorem dX4_share_48 : decode cX4_share 48 = .ok (.iload 7, 2) := by decide +kernel
theorem dX4_share_50 : decode cX4_share 50 = .ok (.aload_n 0, 1) := by decide +kernel
theorem dX4_share_51 : decode cX4_share 51 = .ok (.getfield 28, 3) := by decide +kernel
theorem dX4_share_54 : decode cX4_share 54 = .ok (.invokevirtual 101, 3) := by decide +kernel
theorem dX4_share_57 : decode cX4_share 57 = .ok (.if_icmp .ne 11, 3) := by decide +kernel
theorem dX4_share_60 : decode cX4_share 60 = .ok (.lconst 0, 1) := by decide +kernel
theorem dX4_share_61 : decode cX4_share 61 = .ok (.lconst 1, 1) := by decide +kernel
theorem dX4_share_62 : decode cX4_share 62 = .ok (.iload 5, 2) := by decide +kernel
theorem dX4_share_64 : decode cX4_share 64 = .ok (.invokestatic 186, 3) := by decide +kernel
theorem dX4_share_67 : decode cX4_share 67 = .ok (.ireturn, 1) := by decide +kernel
theorem dX4_share_68 : decode cX4_share 68 = .ok (.aload_n 0, 1) := by decide +kernel
theorem dX4_share_69 : decode cX4_share 69 = .ok (.getfield 28, 3) := by decide +kernel
theorem dX4_share_72 : decode cX4_share 72 = .ok (.invokevirtual 144, 3) := by decide +kernel
theorem dX4_share_75 : decode cX4_share 75 = .ok (.istore 8, 2) := by decide +kernel
theorem dX4_share_77 : decode cX4_share 77 = .ok (.lconst 0, 1) := by decide +kernel
theorem dX4_share_78 : decode cX4_share 78 = .ok (.lstore 9, 2) := by decide +kernel
theorem dX4_share_80 : decode cX4_share 80 = .ok (.iconst 0, 1) := by decide +kernel
theorem dX4_share_81 : decode cX4_share 81 = .ok (.istore 11, 2) := by decide +kernel
theorem dX4_share_83 : decode cX4_share 83 = .ok (.iload 11, 2) := by decide +kernel
theorem dX4_share_85 : decode cX4_share 85 = .ok (.iload 7, 2) := by decide +kernel
theorem dX4_share_87 : decode cX4_share 87 = .ok (.if_icmp .gt 84, 3) := by decide +kernel
theorem dX4_share_90 : decode cX4_share 90 = .ok (.iload 11, 2) := by decide +kernel
theorem dX4_share_92 : decode cX4_share 92 = .ok (.iload 7, 2) := by decide +kernel
theorem dX4_share_94 : decode cX4_share 94 = .ok (.iconst (-1), 1) := by decide +kernel
theorem dX4_share_95 : decode cX4_share 95 = .ok (.ixor, 1) := by decide +kernel
theorem dX4_share_96 : decode cX4_share 96 = .ok (.iand, 1) := by decide +kernel
theorem dX4_share_97 : decode cX4_share 97 = .ok (.ifCond .ne 68, 3) := by decide +kernel
theorem dX4_share_100 : decode cX4_share 100 = .ok (.iload 11, 2) := by decide +kernel
theorem dX4_share_102 : decode cX4_share 102 = .ok (.invokestatic 190, 3) := by decide +kernel
theorem dX4_share_105 : decode cX4_share 105 = .ok (.istore 12, 2) := by decide +kernel
theorem dX4_share_107 : decode cX4_share 107 = .ok (.aload_n 0, 1) := by decide +kernel
theorem dX4_share_108 : decode cX4_share 108 = .ok (.iload 6, 2) := by decide +kernel
theorem dX4_share_110 : decode cX4_share 110 = .ok (.iload 11, 2) := by decide +kernel
theorem dX4_share_112 : decode cX4_share 112 = .ok (.iconst 1, 1) := by decide +kernel
theorem dX4_share_113 : decode cX4_share 113 = .ok (.iload_n 1, 1) := by decide +kernel
theorem dX4_share_114 : decode cX4_share 114 = .ok (.ishl, 1) := by decide +kernel
theorem dX4_share_115 : decode cX4_share 115 = .ok (.ior, 1) := by decide +kernel
theorem dX4_share_116 : decode cX4_share 116 = .ok (.invokestatic 195, 3) := by decide +kernel
theorem dX4_share_119 : decode cX4_share 119 = .ok (.iload_n 2, 1) := by decide +kernel
theorem dX4_share_120 : decode cX4_share 120 = .ok (.lload_n 3, 1) := by decide +kernel
theorem dX4_share_121 : decode cX4_share 121 = .ok (.invokevirtual 179, 3) := by decide +kernel
theorem dX4_share_124 : decode cX4_share 124 = .ok (.aload_n 0, 1) := by decide +kernel
theorem dX4_share_125 : decode cX4_share 125 = .ok (.iload 6, 2) := by decide +kernel
theorem dX4_share_127 : decode cX4_share 127 = .ok (.iload 11, 2) := by decide +kernel
theorem dX4_share_129 : decode cX4_share 129 = .ok (.invokestatic 195, 3) := by decide +kernel
theorem dX4_share_132 : decode cX4_share 132 = .ok (.iload_n 2, 1) := by decide +kernel
theorem dX4_share_133 : decode cX4_share 133 = .ok (.lload_n 3, 1) := by decide +kernel
theorem dX4_share_134 : decode cX4_share 134 = .ok (.invokevirtual 179, 3) := by decide +kernel
theorem dX4_share_137 : decode cX4_share 137 = .ok (.isub, 1) := by decide +kernel
theorem dX4_share_138 : decode cX4_share 138 = .ok (.istore 13, 2) := by decide +kernel
theorem dX4_share_140 : decode cX4_share 140 = .ok (.lload 9, 2) := by decide +kernel
theorem dX4_share_142 : decode cX4_share 142 = .ok (.iload 13, 2) := by decide +kernel
theorem dX4_share_144 : decode cX4_share 144 = .ok (.iload 12, 2) := by decide +kernel
theorem dX4_share_146 : decode cX4_share 146 = .ok (.invokestatic 199, 3) := by decide +kernel
theorem dX4_share_149 : decode cX4_share 149 = .ok (.imul, 1) := by decide +kernel
theorem dX4_share_150 : decode cX4_share 150 = .ok (.iload 8, 2) := by decide +kernel
theorem dX4_share_152 : decode cX4_share 152 = .ok (.iconst 1, 1) := by decide +kernel
theorem dX4_share_153 : decode cX4_share 153 = .ok (.isub, 1) := by decide +kernel
theorem dX4_share_154 : decode cX4_share 154 = .ok (.iload 12, 2) := by decide +kernel
theorem dX4_share_156 : decode cX4_share 156 = .ok (.isub, 1) := by decide +kernel
theorem dX4_share_157 : decode cX4_share 157 = .ok (.invokestatic 199, 3) := by decide +kernel
theorem dX4_share_160 : decode cX4_share 160 = .ok (.imul, 1) := by decide +kernel
theorem dX4_share_161 : decode cX4_share 161 = .ok (.i2l, 1) := by decide +kernel
theorem dX4_share_162 : decode cX4_share 162 = .ok (.ladd, 1) := by decide +kernel
theorem dX4_share_163 : decode cX4_share 163 = .ok (.lstore 9, 2) := by decide +kernel
theorem dX4_share_165 : decode cX4_share 165 = .ok (.iinc 11 1, 3) := by decide +kernel
theorem dX4_share_168 : decode cX4_share 168 = .ok (.goto (-85), 3) := by decide +kernel
theorem dX4_share_171 : decode cX4_share 171 = .ok (.lload 9, 2) := by decide +kernel
theorem dX4_share_173 : decode cX4_share 173 = .ok (.iload 8, 2) := by decide +kernel
theorem dX4_share_175 : decode cX4_share 175 = .ok (.invokestatic 199, 3) := by decide +kernel
theorem dX4_share_178 : decode cX4_share 178 = .ok (.i2l, 1) := by decide +kernel
theorem dX4_share_179 : decode cX4_share 179 = .ok (.iload 5, 2) := by decide +kernel
theorem dX4_share_181 : decode cX4_share 181 = .ok (.invokestatic 186, 3) := by decide +kernel
theorem dX4_share_184 : decode cX4_share 184 = .ok (.ireturn, 1) := by decide +kernel
set_option maxRecDepth 20000 in
theorem ggX4_bears_X1_has : GoodIn wsX4_bears wsX1_has := goodIn_r _ [8, 9, 10, 11, 12, 114, 115, 116, 117, 118] (by decide +kernel) (by decide +kernel)
set_option maxRecDepth 20000 in
theorem gX4_bears_X1_has : GoodIn wsX4_bears (wsV RX4 120 RX1 yX1_has wsX1_has) := goodIn_app (goodIn_of _ (by decide +kernel)) ggX4_bears_X1_has
set_option maxRecDepth 20000 in
theorem ggX4_bears_X3_indexOf : GoodIn wsX4_bears wsX3_indexOf := goodIn_r _ [17, 18, 19, 20, 16, 21, 22, 23, 24, 25, 26, 27, 28, 29, 30, 31, 32, 33, 34, 119, 120, 121, 122, 123] (by decide +kernel) (by decide +kernel)
set_option maxRecDepth 20000 in
theorem gX4_bears_X3_indexOf : GoodIn wsX4_bears (wsV RX4 132 RX3 yX3_indexOf wsX3_indexOf) := goodIn_app (goodIn_of _ (by decide +kernel)) ggX4_bears_X3_indexOf
set_option maxRecDepth 20000 in
theorem ggX4_bears_X3_state : GoodIn wsX4_bears wsX3_state := goodIn_r _ [38, 39, 40, 22, 119, 120, 121, 122, 123] (by decide +kernel) (by decide +kernel)
set_option maxRecDepth 20000 in
theorem gX4_bears_X3_state : GoodIn wsX4_bears (wsV RX4 164 RX3 yX3_state wsX3_state) := goodIn_app (goodIn_of _ (by decide +kernel)) ggX4_bears_X3_state
set_option maxRecDepth 20000 in
theorem ggX4_bears_X3_become : GoodIn wsX4_bears wsX3_become := goodIn_r _ [44, 45, 22, 40, 39, 119, 120, 121, 122, 123] (by decide +kernel) (by decide +kernel)
set_option maxRecDepth 20000 in
theorem gX4_bears_X3_become : GoodIn wsX4_bears (wsV RX4 154 RX3 yX3_become wsX3_become) := goodIn_app (goodIn_of _ (by decide +kernel)) ggX4_bears_X3_become
set_option maxRecDepth 20000 in
theorem ggX4_bears_X1_light : GoodIn wsX4_bears wsX1_light := goodIn_r _ [49, 50, 114, 115, 116, 117, 118] (by decide +kernel) (by decide +kernel)
set_option maxRecDepth 20000 in
theorem gX4_bears_X1_light : GoodIn wsX4_bears (wsV RX4 92 RX1 yX1_light wsX1_light) := goodIn_app (goodIn_of _ (by decide +kernel)) ggX4_bears_X1_light
set_option maxRecDepth 20000 in
theorem ggX4_bears_X3_place : GoodIn wsX4_bears wsX3_place := goodIn_r _ [54, 39, 119, 120, 121, 122, 123] (by decide +kernel) (by decide +kernel)
set_option maxRecDepth 20000 in
theorem gX4_bears_X3_place : GoodIn wsX4_bears (wsV RX4 98 RX3 yX3_place wsX3_place) := goodIn_app (goodIn_of _ (by decide +kernel)) ggX4_bears_X3_place
set_option maxRecDepth 20000 in
theorem ggX4_bears_X3_step : GoodIn wsX4_bears wsX3_step := goodIn_r _ [58, 59, 39, 18, 19, 20, 16, 21, 22, 23, 24, 25, 26, 27, 28, 29, 30, 31, 32, 33, 34, 60, 61, 62, 7, 63, 64, 65, 66, 67, 68, 69, 70, 71, 72, 73, 74, 75, 76, 77, 78, 40, 79, 80, 81, 82, 83, 84, 85, 86, 87, 88, 89, 90, 91, 92, 93, 94, 95, 96, 97, 98, 119, 120, 121, 122, 123, 114, 115, 116, 117, 118] (by decide +kernel) (by decide +kernel)
set_option maxRecDepth 20000 in
theorem gX4_bears_X3_step : GoodIn wsX4_bears (wsV RX4 141 RX3 yX3_step wsX3_step) := goodIn_app (goodIn_of _ (by decide +kernel)) ggX4_bears_X3_step
set_option maxRecDepth 20000 in
theorem ggX4_bears_X3_turned : GoodIn wsX4_bears wsX3_turned := goodIn_r _ [102, 90, 119, 120, 121, 122, 123] (by decide +kernel) (by decide +kernel)
set_option maxRecDepth 20000 in
theorem gX4_bears_X3_turned : GoodIn wsX4_bears (wsV RX4 202 RX3 yX3_turned wsX3_turned) := goodIn_app (goodIn_of _ (by decide +kernel)) ggX4_bears_X3_turned
theorem dX4_bears_0 : decode cX4_bears 0 = .ok (.aload_n 0, 1) := by decide +kernel
theorem dX4_bears_1 : decode cX4_bears 1 = .ok (.getfield 19, 3) := by decide +kernel
theorem dX4_bears_4 : decode cX4_bears 4 = .ok (.iload_n 1, 1) := by decide +kernel
theorem dX4_bears_5 : decode cX4_bears 5 = .ok (.invokevirtual 120, 3) := by decide +kernel
theorem dX4_bears_8 : decode cX4_bears 8 = .ok (.ifCond .ne 5, 3) := by decide +kernel
theorem dX4_bears_11 : decode cX4_bears 11 = .ok (.iconst (-1), 1) := by decide +kernel
theorem dX4_bears_12 : decode cX4_bears 12 = .ok (.ireturn, 1) := by decide +kernel
theorem dX4_bears_13 : decode cX4_bears 13 = .ok (.aload_n 0, 1) := by decide +kernel
theorem dX4_bears_14 : decode cX4_bears 14 = .ok (.getfield 28, 3) := by decide +kernel
theorem dX4_bears_17 : decode cX4_bears 17 = .ok (.iload_n 1, 1) := by decide +kernel
theorem dX4_bears_18 : decode cX4_bears 18 = .ok (.invokevirtual 132, 3) := by decide +kernel
theorem dX4_bears_21 : decode cX4_bears 21 = .ok (.bipush (-9), 2) := by decide +kernel
theorem dX4_bears_23 : decode cX4_bears 23 = .ok (.if_icmp .ne 6, 3) := by decide +kernel
theorem dX4_bears_26 : decode cX4_bears 26 = .ok (.bipush (-3), 2) := by decide +kernel
theorem dX4_bears_28 : decode cX4_bears 28 = .ok (.ireturn, 1) := by decide +kernel
theorem dX4_bears_29 : decode cX4_bears 29 = .ok (.aload_n 0, 1) := by decide +kernel
theorem dX4_bears_30 : decode cX4_bears 30 = .ok (.getfield 32, 3) := by decide +kernel
theorem dX4_bears_33 : decode cX4_bears 33 = .ok (.aload_n 0, 1) := by decide +kernel
theorem dX4_bears_34 : decode cX4_bears 34 = .ok (.getfield 28, 3) := by decide +kernel
theorem dX4_bears_37 : decode cX4_bears 37 = .ok (.invokevirtual 164, 3) := by decide +kernel
theorem dX4_bears_40 : decode cX4_bears 40 = .ok (.invokevirtual 154, 3) := by decide +kernel
theorem dX4_bears_43 : decode cX4_bears 43 = .ok (.aload_n 0, 1) := by decide +kernel
theorem dX4_bears_44 : decode cX4_bears 44 = .ok (.getfield 19, 3) := by decide +kernel
theorem dX4_bears_47 : decode cX4_bears 47 = .ok (.invokevirtual 92, 3) := by decide +kernel
theorem dX4_bears_50 : decode cX4_bears 50 = .ok (.aload_n 0, 1) := by decide +kernel
theorem dX4_bears_51 : decode cX4_bears 51 = .ok (.getfield 28, 3) := by decide +kernel
theorem dX4_bears_54 : decode cX4_bears 54 = .ok (.invokevirtual 98, 3) := by decide +kernel
theorem dX4_bears_57 : decode cX4_bears 57 = .ok (.isub, 1) := by decide +kernel
theorem dX4_bears_58 : decode cX4_bears 58 = .ok (.istore_n 2, 1) := by decide +kernel
theorem dX4_bears_59 : decode cX4_bears 59 = .ok (.iconst 1, 1) := by decide +kernel
theorem dX4_bears_60 : decode cX4_bears 60 = .ok (.istore_n 3, 1) := by decide +kernel
theorem dX4_bears_61 : decode cX4_bears 61 = .ok (.iload_n 3, 1) := by decide +kernel
theorem dX4_bears_62 : decode cX4_bears 62 = .ok (.iload_n 2, 1) := by decide +kernel
theorem dX4_bears_63 : decode cX4_bears 63 = .ok (.if_icmp .gt 35, 3) := by decide +kernel
theorem dX4_bears_66 : decode cX4_bears 66 = .ok (.aload_n 0, 1) := by decide +kernel
theorem dX4_bears_67 : decode cX4_bears 67 = .ok (.getfield 32, 3) := by decide +kernel
theorem dX4_bears_70 : decode cX4_bears 70 = .ok (.iconst 0, 1) := by decide +kernel
theorem dX4_bears_71 : decode cX4_bears 71 = .ok (.invokevirtual 141, 3) := by decide +kernel
theorem dX4_bears_74 : decode cX4_bears 74 = .ok (.pop, 1) := by decide +kernel
theorem dX4_bears_75 : decode cX4_bears 75 = .ok (.aload_n 0, 1) := by decide +kernel
theorem dX4_bears_76 : decode cX4_bears 76 = .ok (.getfield 32, 3) := by decide +kernel
theorem dX4_bears_79 : decode cX4_bears 79 = .ok (.invokevirtual 202, 3) := by decide +kernel
theorem dX4_bears_82 : decode cX4_bears 82 = .ok (.iload_n 1, 1) := by decide +kernel
theorem dX4_bears_83 : decode cX4_bears 83 = .ok (.ishr, 1) := by decide +kernel
theorem dX4_bears_84 : decode cX4_bears 84 = .ok (.iconst 1, 1) := by decide +kernel
theorem dX4_bears_85 : decode cX4_bears 85 = .ok (.iand, 1) := by decide +kernel
theorem dX4_bears_86 : decode cX4_bears 86 = .ok (.iconst 1, 1) := by decide +kernel
theorem dX4_bears_87 : decode cX4_bears 87 = .ok (.if_icmp .ne 5, 3) := by decide +kernel
theorem dX4_bears_90 : decode cX4_bears 90 = .ok (.iload_n 3, 1) := by decide +kernel
theorem dX4_bears_91 : decode cX4_bears 91 = .ok (.ireturn, 1) := by decide +kernel
theorem dX4_bears_92 : decode cX4_bears 92 = .ok (.iinc 3 1, 3) := by decide +kernel
theorem dX4_bears_95 : decode cX4_bears 95 = .ok (.goto (-34), 3) := by decide +kernel
theorem dX4_bears_98 : decode cX4_bears 98 = .ok (.bipush (-9), 2) := by decide +kernel
theorem dX4_bears_100 : decode cX4_bears 100 = .ok (.ireturn, 1) := by decide +kernel
set_option maxRecDepth 20000 in
theorem ggX4_leftOf_X3_place : GoodIn wsX4_leftOf wsX3_place := goodIn_r _ [7, 8, 105, 106, 107, 108, 109] (by decide +kernel) (by decide +kernel)
set_option maxRecDepth 20000 in
theorem gX4_leftOf_X3_place : GoodIn wsX4_leftOf (wsV RX4 98 RX3 yX3_place wsX3_place) := goodIn_app (goodIn_of _ (by decide +kernel)) ggX4_leftOf_X3_place
set_option maxRecDepth 20000 in
theorem ggX4_leftOf_X3_lineUp : GoodIn wsX4_leftOf wsX3_lineUp := goodIn_r _ [12, 13, 14, 8, 105, 106, 107, 108, 109] (by decide +kernel) (by decide +kernel)
set_option maxRecDepth 20000 in
theorem gX4_leftOf_X3_lineUp : GoodIn wsX4_leftOf (wsV RX4 205 RX3 yX3_lineUp wsX3_lineUp) := goodIn_app (goodIn_of _ (by decide +kernel)) ggX4_leftOf_X3_lineUp
set_option maxRecDepth 20000 in
theorem ggX4_leftOf_X3_sing : GoodIn wsX4_leftOf wsX3_sing := goodIn_r _ [18, 19, 20, 21, 22, 6, 23, 8, 24, 25, 26, 27, 28, 29, 30, 31, 32, 33, 34, 35, 36, 37, 38, 39, 40, 41, 42, 13, 43, 44, 45, 46, 47, 48, 49, 50, 51, 52, 53, 54, 55, 56, 57, 58, 59, 60, 61, 62, 63, 64, 65, 66, 67, 68, 69, 70, 71, 72, 73, 14, 74, 75, 76, 77, 78, 79, 80, 81, 82, 83, 84, 85, 86, 87, 88, 89, 90, 91, 92, 105, 106, 107, 108, 109, 110, 111, 112, 113, 114] (by decide +kernel) (by decide +kernel)
set_option maxRecDepth 20000 in
theorem gX4_leftOf_X3_sing : GoodIn wsX4_leftOf (wsV RX4 172 RX3 yX3_sing wsX3_sing) := goodIn_app (goodIn_of _ (by decide +kernel)) ggX4_leftOf_X3_sing
set_option maxRecDepth 20000 in
theorem ggX4_leftOf_X3_size : GoodIn wsX4_leftOf wsX3_size := goodIn_r _ [42, 13, 43, 44, 45, 46, 47, 48, 49, 105, 106, 107, 108, 109] (by decide +kernel) (by decide +kernel)
set_option maxRecDepth 20000 in
theorem gX4_leftOf_X3_size : GoodIn wsX4_leftOf (wsV RX4 144 RX3 yX3_size wsX3_size) := goodIn_app (goodIn_of _ (by decide +kernel)) ggX4_leftOf_X3_size
theorem dX4_leftOf_0 : decode cX4_leftOf 0 = .ok (.aload_n 0, 1) := by decide +kernel
theorem dX4_leftOf_1 : decode cX4_leftOf 1 = .ok (.getfield 32, 3) := by decide +kernel
theorem dX4_leftOf_4 : decode cX4_leftOf 4 = .ok (.iload_n 1, 1) := by decide +kernel
theorem dX4_leftOf_5 : decode cX4_leftOf 5 = .ok (.aload_n 0, 1) := by decide +kernel
theorem dX4_leftOf_6 : decode cX4_leftOf 6 = .ok (.getfield 28, 3) := by decide +kernel
theorem dX4_leftOf_9 : decode cX4_leftOf 9 = .ok (.invokevirtual 98, 3) := by decide +kernel
theorem dX4_leftOf_12 : decode cX4_leftOf 12 = .ok (.invokevirtual 205, 3) := by decide +kernel
theorem dX4_leftOf_15 : decode cX4_leftOf 15 = .ok (.aload_n 0, 1) := by decide +kernel
theorem dX4_leftOf_16 : decode cX4_leftOf 16 = .ok (.getfield 32, 3) := by decide +kernel
theorem dX4_leftOf_19 : decode cX4_leftOf 19 = .ok (.iload_n 2, 1) := by decide +kernel
theorem dX4_leftOf_20 : decode cX4_leftOf 20 = .ok (.lload_n 3, 1) := by decide +kernel
theorem dX4_leftOf_21 : decode cX4_leftOf 21 = .ok (.invokevirtual 172, 3) := by decide +kernel
theorem dX4_leftOf_24 : decode cX4_leftOf 24 = .ok (.pop, 1) := by decide +kernel
theorem dX4_leftOf_25 : decode cX4_leftOf 25 = .ok (.aload_n 0, 1) := by decide +kernel
theorem dX4_leftOf_26 : decode cX4_leftOf 26 = .ok (.getfield 32, 3) := by decide +kernel
theorem dX4_leftOf_29 : decode cX4_leftOf 29 = .ok (.invokevirtual 144, 3) := by decide +kernel
theorem dX4_leftOf_32 : decode cX4_leftOf 32 = .ok (.ireturn, 1) := by decide +kernel
set_option maxRecDepth 20000 in
theorem ggX4_isSong_X4_within : GoodIn wsX4_isSong wsX4_within := goodIn_r _ [6] (by decide +kernel) (by decide +kernel)
set_option maxRecDepth 20000 in
theorem gX4_isSong_X4_within : GoodIn wsX4_isSong (va_wsS RX4 61 yX4_within wsX4_within) := goodIn_app (goodIn_of _ (by decide +kernel)) ggX4_isSong_X4_within
theorem dX4_isSong_0 : decode cX4_isSong 0 = .ok (.iload_n 0, 1) := by decide +kernel
theorem dX4_isSong_1 : decode cX4_isSong 1 = .ok (.iconst 1, 1) := by decide +kernel
theorem dX4_isSong_2 : decode cX4_isSong 2 = .ok (.iconst 5, 1) := by decide +kernel
theorem dX4_isSong_3 : decode cX4_isSong 3 = .ok (.invokestatic 61, 3) := by decide +kernel
theorem dX4_isSong_6 : decode cX4_isSong 6 = .ok (.ifCond .eq 9, 3) := by decide +kernel
theorem dX4_isSong_9 : decode cX4_isSong 9 = .ok (.lload_n 1, 1) := by decide +kernel
theorem dX4_isSong_10 : decode cX4_isSong 10 = .ok (.lconst 0, 1) := by decide +kernel
theorem dX4_isSong_11 : decode cX4_isSong 11 = .ok (.lcmp, 1) := by decide +kernel
theorem dX4_isSong_12 : decode cX4_isSong 12 = .ok (.ifCond .ge 5, 3) := by decide +kernel
theorem dX4_isSong_15 : decode cX4_isSong 15 = .ok (.iconst 0, 1) := by decide +kernel
theorem dX4_isSong_16 : decode cX4_isSong 16 = .ok (.ireturn, 1) := by decide +kernel
theorem dX4_isSong_17 : decode cX4_isSong 17 = .ok (.lload_n 1, 1) := by decide +kernel
theorem dX4_isSong_18 : decode cX4_isSong 18 = .ok (.lstore_n 3, 1) := by decide +kernel
theorem dX4_isSong_19 : decode cX4_isSong 19 = .ok (.iconst 0, 1) := by decide +kernel
theorem dX4_isSong_20 : decode cX4_isSong 20 = .ok (.istore 5, 2) := by decide +kernel
theorem dX4_isSong_22 : decode cX4_isSong 22 = .ok (.iload 5, 2) := by decide +kernel
theorem dX4_isSong_24 : decode cX4_isSong 24 = .ok (.iload_n 0, 1) := by decide +kernel
theorem dX4_isSong_25 : decode cX4_isSong 25 = .ok (.if_icmp .ge 29, 3) := by decide +kernel
theorem dX4_isSong_28 : decode cX4_isSong 28 = .ok (.lload_n 3, 1) := by decide +kernel
theorem dX4_isSong_29 : decode cX4_isSong 29 = .ok (.ldc2_w 209, 3) := by decide +kernel
theorem dX4_isSong_32 : decode cX4_isSong 32 = .ok (.lrem, 1) := by decide +kernel
theorem dX4_isSong_33 : decode cX4_isSong 33 = .ok (.ldc2_w 211, 3) := by decide +kernel
theorem dX4_isSong_36 : decode cX4_isSong 36 = .ok (.lcmp, 1) := by decide +kernel
theorem dX4_isSong_37 : decode cX4_isSong 37 = .ok (.ifCond .le 5, 3) := by decide +kernel
theorem dX4_isSong_40 : decode cX4_isSong 40 = .ok (.iconst 0, 1) := by decide +kernel
theorem dX4_isSong_41 : decode cX4_isSong 41 = .ok (.ireturn, 1) := by decide +kernel
theorem dX4_isSong_42 : decode cX4_isSong 42 = .ok (.lload_n 3, 1) := by decide +kernel
theorem dX4_isSong_43 : decode cX4_isSong 43 = .ok (.ldc2_w 209, 3) := by decide +kernel
theorem dX4_isSong_46 : decode cX4_isSong 46 = .ok (.ldiv, 1) := by decide +kernel
theorem dX4_isSong_47 : decode cX4_isSong 47 = .ok (.lstore_n 3, 1) := by decide +kernel
theorem dX4_isSong_48 : decode cX4_isSong 48 = .ok (.iinc 5 1, 3) := by decide +kernel
theorem dX4_isSong_51 : decode cX4_isSong 51 = .ok (.goto (-29), 3) := by decide +kernel
theorem dX4_isSong_54 : decode cX4_isSong 54 = .ok (.lload_n 3, 1) := by decide +kernel
theorem dX4_isSong_55 : decode cX4_isSong 55 = .ok (.lconst 0, 1) := by decide +kernel
theorem dX4_isSong_56 : decode cX4_isSong 56 = .ok (.lcmp, 1) := by decide +kernel
theorem dX4_isSong_57 : decode cX4_isSong 57 = .ok (.ifCond .ne 7, 3) := by decide +kernel
theorem dX4_isSong_60 : decode cX4_isSong 60 = .ok (.iconst 1, 1) := by decide +kernel
theorem dX4_isSong_61 : decode cX4_isSong 61 = .ok (.goto 4, 3) := by decide +kernel
theorem dX4_isSong_64 : decode cX4_isSong 64 = .ok (.iconst 0, 1) := by decide +kernel
theorem dX4_isSong_65 : decode cX4_isSong 65 = .ok (.ireturn, 1) := by decide +kernel
set_option maxRecDepth 20000 in
theorem ggX4_still_X4_within : GoodIn wsX4_still wsX4_within := goodIn_r _ [6] (by decide +kernel) (by decide +kernel)
set_option maxRecDepth 20000 in
theorem gX4_still_X4_within : GoodIn wsX4_still (va_wsS RX4 61 yX4_within wsX4_within) := goodIn_app (goodIn_of _ (by decide +kernel)) ggX4_still_X4_within
set_option maxRecDepth 20000 in
theorem ggX4_still_X4_isTenths : GoodIn wsX4_still wsX4_isTenths := goodIn_r _ [9, 3, 4, 5, 6] (by decide +kernel) (by decide +kernel)
set_option maxRecDepth 20000 in
theorem gX4_still_X4_isTenths : GoodIn wsX4_still (va_wsS RX4 213 yX4_isTenths wsX4_isTenths) := goodIn_app (goodIn_of _ (by decide +kernel)) ggX4_still_X4_isTenths
set_option maxRecDepth 20000 in
theorem ggX4_still_X4_fraction : GoodIn wsX4_still wsX4_fraction := goodIn_r _ [12, 13, 14, 15, 16, 17, 18, 5, 19] (by decide +kernel) (by decide +kernel)
set_option maxRecDepth 20000 in
theorem gX4_still_X4_fraction : GoodIn wsX4_still (va_wsS RX4 186 yX4_fraction wsX4_fraction) := goodIn_app (goodIn_of _ (by decide +kernel)) ggX4_still_X4_fraction
theorem dX4_still_0 : decode cX4_still 0 = .ok (.iload_n 1, 1) := by decide +kernel
theorem dX4_still_1 : decode cX4_still 1 = .ok (.iconst 1, 1) := by decide +kernel
theorem dX4_still_2 : decode cX4_still 2 = .ok (.iconst 4, 1) := by decide +kernel
theorem dX4_still_3 : decode cX4_still 3 = .ok (.invokestatic 61, 3) := by decide +kernel
theorem dX4_still_6 : decode cX4_still 6 = .ok (.ifCond .eq 31, 3) := by decide +kernel
theorem dX4_still_9 : decode cX4_still 9 = .ok (.iload_n 2, 1) := by decide +kernel
theorem dX4_still_10 : decode cX4_still 10 = .ok (.iconst 0, 1) := by decide +kernel
theorem dX4_still_11 : decode cX4_still 11 = .ok (.iconst 1, 1) := by decide +kernel
theorem dX4_still_12 : decode cX4_still 12 = .ok (.iload_n 1, 1) := by decide +kernel
theorem dX4_still_13 : decode cX4_still 13 = .ok (.ishl, 1) := by decide +kernel
theorem dX4_still_14 : decode cX4_still 14 = .ok (.iconst 1, 1) := by decide +kernel
theorem dX4_still_15 : decode cX4_still 15 = .ok (.isub, 1) := by decide +kernel
theorem dX4_still_16 : decode cX4_still 16 = .ok (.invokestatic 61, 3) := by decide +kernel
theorem dX4_still_19 : decode cX4_still 19 = .ok (.ifCond .eq 18, 3) := by decide +kernel
theorem dX4_still_22 : decode cX4_still 22 = .ok (.iload_n 3, 1) := by decide +kernel
theorem dX4_still_23 : decode cX4_still 23 = .ok (.invokestatic 213, 3) := by decide +kernel
theorem dX4_still_26 : decode cX4_still 26 = .ok (.ifCond .eq 11, 3) := by decide +kernel
theorem dX4_still_29 : decode cX4_still 29 = .ok (.iload 4, 2) := by decide +kernel
theorem dX4_still_31 : decode cX4_still 31 = .ok (.invokestatic 213, 3) := by decide +kernel
theorem dX4_still_34 : decode cX4_still 34 = .ok (.ifCond .ne 6, 3) := by decide +kernel
theorem dX4_still_37 : decode cX4_still 37 = .ok (.bipush (-2), 2) := by decide +kernel
theorem dX4_still_39 : decode cX4_still 39 = .ok (.ireturn, 1) := by decide +kernel
theorem dX4_still_40 : decode cX4_still 40 = .ok (.lconst 1, 1) := by decide +kernel
theorem dX4_still_41 : decode cX4_still 41 = .ok (.lstore 6, 2) := by decide +kernel
theorem dX4_still_43 : decode cX4_still 43 = .ok (.lconst 0, 1) := by decide +kernel
theorem dX4_still_44 : decode cX4_still 44 = .ok (.lstore 8, 2) := by decide +kernel
theorem dX4_still_46 : decode cX4_still 46 = .ok (.iconst 0, 1) := by decide +kernel
theorem dX4_still_47 : decode cX4_still 47 = .ok (.istore 10, 2) := by decide +kernel
theorem dX4_still_49 : decode cX4_still 49 = .ok (.iload 10, 2) := by decide +kernel
theorem dX4_still_51 : decode cX4_still 51 = .ok (.iload_n 1, 1) := by decide +kernel
theorem dX4_still_52 : decode cX4_still 52 = .ok (.if_icmp .ge 80, 3) := by decide +kernel
theorem dX4_still_55 : decode cX4_still 55 = .ok (.iload_n 2, 1) := by decide +kernel
theorem dX4_still_56 : decode cX4_still 56 = .ok (.iload 10, 2) := by decide +kernel
theorem dX4_still_58 : decode cX4_still 58 = .ok (.ishr, 1) := by decide +kernel
theorem dX4_still_59 : decode cX4_still 59 = .ok (.iconst 1, 1) := by decide +kernel
theorem dX4_still_60 : decode cX4_still 60 = .ok (.iand, 1) := by decide +kernel
theorem dX4_still_61 : decode cX4_still 61 = .ok (.iconst 1, 1) := by decide +kernel
theorem dX4_still_62 : decode cX4_still 62 = .ok (.if_icmp .ne 7, 3) := by decide +kernel
theorem dX4_still_65 : decode cX4_still 65 = .ok (.iconst 1, 1) := by decide +kernel
theorem dX4_still_66 : decode cX4_still 66 = .ok (.goto 4, 3) := by decide +kernel
theorem dX4_still_69 : decode cX4_still 69 = .ok (.iconst 0, 1) := by decide +kernel
theorem dX4_still_70 : decode cX4_still 70 = .ok (.istore 11, 2) := by decide +kernel
theorem dX4_still_72 : decode cX4_still 72 = .ok (.iload 11, 2) := by decide +kernel
theorem dX4_still_74 : decode cX4_still 74 = .ok (.ifCond .eq 7, 3) := by decide +kernel
theorem dX4_still_77 : decode cX4_still 77 = .ok (.lconst 0, 1) := by decide +kernel
theorem dX4_still_78 : decode cX4_still 78 = .ok (.goto 20, 3) := by decide +kernel
theorem dX4_still_81 : decode cX4_still 81 = .ok (.lload 8, 2) := by decide +kernel
theorem dX4_still_83 : decode cX4_still 83 = .ok (.ldc2_w 209, 3) := by decide +kernel
theorem dX4_still_86 : decode cX4_still 86 = .ok (.lmul, 1) := by decide +kernel
theorem dX4_still_87 : decode cX4_still 87 = .ok (.lload 6, 2) := by decide +kernel
theorem dX4_still_89 : decode cX4_still 89 = .ok (.iload 4, 2) := by decide +kernel
theorem dX4_still_91 : decode cX4_still 91 = .ok (.i2l, 1) := by decide +kernel
theorem dX4_still_92 : decode cX4_still 92 = .ok (.lmul, 1) := by decide +kernel
theorem dX4_still_93 : decode cX4_still 93 = .ok (.ldc2_w 216, 3) := by decide +kernel
theorem dX4_still_96 : decode cX4_still 96 = .ok (.lmul, 1) := by decide +kernel
theorem dX4_still_97 : decode cX4_still 97 = .ok (.ladd, 1) := by decide +kernel
theorem dX4_still_98 : decode cX4_still 98 = .ok (.lstore 8, 2) := by decide +kernel
theorem dX4_still_100 : decode cX4_still 100 = .ok (.lload 6, 2) := by decide +kernel
theorem dX4_still_102 : decode cX4_still 102 = .ok (.bipush 10, 2) := by decide +kernel
theorem dX4_still_104 : decode cX4_still 104 = .ok (.iload 4, 2) := by decide +kernel
theorem dX4_still_106 : decode cX4_still 106 = .ok (.isub, 1) := by decide +kernel
theorem dX4_still_107 : decode cX4_still 107 = .ok (.i2l, 1) := by decide +kernel
theorem dX4_still_108 : decode cX4_still 108 = .ok (.lmul, 1) := by decide +kernel
theorem dX4_still_109 : decode cX4_still 109 = .ok (.iload 11, 2) := by decide +kernel
theorem dX4_still_111 : decode cX4_still 111 = .ok (.ifCond .eq 7, 3) := by decide +kernel
theorem dX4_still_114 : decode cX4_still 114 = .ok (.iload_n 3, 1) := by decide +kernel
theorem dX4_still_115 : decode cX4_still 115 = .ok (.goto 7, 3) := by decide +kernel
theorem dX4_still_118 : decode cX4_still 118 = .ok (.bipush 10, 2) := by decide +kernel
theorem dX4_still_120 : decode cX4_still 120 = .ok (.iload_n 3, 1) := by decide +kernel
theorem dX4_still_121 : decode cX4_still 121 = .ok (.isub, 1) := by decide +kernel
theorem dX4_still_122 : decode cX4_still 122 = .ok (.i2l, 1) := by decide +kernel
theorem dX4_still_123 : decode cX4_still 123 = .ok (.lmul, 1) := by decide +kernel
theorem dX4_still_124 : decode cX4_still 124 = .ok (.lstore 6, 2) := by decide +kernel
theorem dX4_still_126 : decode cX4_still 126 = .ok (.iinc 10 1, 3) := by decide +kernel
theorem dX4_still_129 : decode cX4_still 129 = .ok (.goto (-80), 3) := by decide +kernel
theorem dX4_still_132 : decode cX4_still 132 = .ok (.lload 6, 2) := by decide +kernel
theorem dX4_still_134 : decode cX4_still 134 = .ok (.lload 8, 2) := by decide +kernel
theorem dX4_still_136 : decode cX4_still 136 = .ok (.ladd, 1) := by decide +kernel
theorem dX4_still_137 : decode cX4_still 137 = .ok (.lconst 0, 1) := by decide +kernel
theorem dX4_still_138 : decode cX4_still 138 = .ok (.lcmp, 1) := by decide +kernel
theorem dX4_still_139 : decode cX4_still 139 = .ok (.ifCond .ne 8, 3) := by decide +kernel
theorem dX4_still_142 : decode cX4_still 142 = .ok (.bipush (-3), 2) := by decide +kernel
theorem dX4_still_144 : decode cX4_still 144 = .ok (.goto 15, 3) := by decide +kernel
theorem dX4_still_147 : decode cX4_still 147 = .ok (.lload 6, 2) := by decide +kernel
theorem dX4_still_149 : decode cX4_still 149 = .ok (.lload 6, 2) := by decide +kernel
theorem dX4_still_151 : decode cX4_still 151 = .ok (.lload 8, 2) := by decide +kernel
theorem dX4_still_153 : decode cX4_still 153 = .ok (.ladd, 1) := by decide +kernel
theorem dX4_still_154 : decode cX4_still 154 = .ok (.iload 5, 2) := by decide +kernel
theorem dX4_still_156 : decode cX4_still 156 = .ok (.invokestatic 186, 3) := by decide +kernel
theorem dX4_still_159 : decode cX4_still 159 = .ok (.ireturn, 1) := by decide +kernel
set_option maxRecDepth 20000 in
theorem ggX4_pebbles_X4_within : GoodIn wsX4_pebbles wsX4_within := goodIn_r _ [4] (by decide +kernel) (by decide +kernel)
set_option maxRecDepth 20000 in
theorem gX4_pebbles_X4_within : GoodIn wsX4_pebbles (va_wsS RX4 61 yX4_within wsX4_within) := goodIn_app (goodIn_of _ (by decide +kernel)) ggX4_pebbles_X4_within
theorem dX4_pebbles_0 : decode cX4_pebbles 0 = .ok (.iload_n 1, 1) := by decide +kernel
theorem dX4_pebbles_1 : decode cX4_pebbles 1 = .ok (.iconst 1, 1) := by decide +kernel
theorem dX4_pebbles_2 : decode cX4_pebbles 2 = .ok (.iconst 5, 1) := by decide +kernel
theorem dX4_pebbles_3 : decode cX4_pebbles 3 = .ok (.invokestatic 61, 3) := by decide +kernel
theorem dX4_pebbles_6 : decode cX4_pebbles 6 = .ok (.ifCond .eq 13, 3) := by decide +kernel
theorem dX4_pebbles_9 : decode cX4_pebbles 9 = .ok (.iload_n 2, 1) := by decide +kernel
theorem dX4_pebbles_10 : decode cX4_pebbles 10 = .ok (.iconst 0, 1) := by decide +kernel
theorem dX4_pebbles_11 : decode cX4_pebbles 11 = .ok (.bipush 50, 2) := by decide +kernel
theorem dX4_pebbles_13 : decode cX4_pebbles 13 = .ok (.invokestatic 61, 3) := by decide +kernel
theorem dX4_pebbles_16 : decode cX4_pebbles 16 = .ok (.ifCond .ne 6, 3) := by decide +kernel
theorem dX4_pebbles_19 : decode cX4_pebbles 19 = .ok (.bipush (-2), 2) := by decide +kernel
theorem dX4_pebbles_21 : decode cX4_pebbles 21 = .ok (.ireturn, 1) := by decide +kernel
theorem dX4_pebbles_22 : decode cX4_pebbles 22 = .ok (.iconst 1, 1) := by decide +kernel
theorem dX4_pebbles_23 : decode cX4_pebbles 23 = .ok (.istore 4, 2) := by decide +kernel
theorem dX4_pebbles_25 : decode cX4_pebbles 25 = .ok (.iconst 0, 1) := by decide +kernel
theorem dX4_pebbles_26 : decode cX4_pebbles 26 = .ok (.istore 5, 2) := by decide +kernel
theorem dX4_pebbles_28 : decode cX4_pebbles 28 = .ok (.iload 5, 2) := by decide +kernel
theorem dX4_pebbles_30 : decode cX4_pebbles 30 = .ok (.bipush 6, 2) := by decide +kernel
theorem dX4_pebbles_32 : decode cX4_pebbles 32 = .ok (.if_icmp .ge 21, 3) := by decide +kernel
theorem dX4_pebbles_35 : decode cX4_pebbles 35 = .ok (.iload 4, 2) := by decide +kernel
theorem dX4_pebbles_37 : decode cX4_pebbles 37 = .ok (.iload_n 2, 1) := by decide +kernel
theorem dX4_pebbles_38 : decode cX4_pebbles 38 = .ok (.if_icmp .gt 15, 3) := by decide +kernel
theorem dX4_pebbles_41 : decode cX4_pebbles 41 = .ok (.iload 4, 2) := by decide +kernel
theorem dX4_pebbles_43 : decode cX4_pebbles 43 = .ok (.iload_n 1, 1) := by decide +kernel
theorem dX4_pebbles_44 : decode cX4_pebbles 44 = .ok (.imul, 1) := by decide +kernel
theorem dX4_pebbles_45 : decode cX4_pebbles 45 = .ok (.istore 4, 2) := by decide +kernel
theorem dX4_pebbles_47 : decode cX4_pebbles 47 = .ok (.iinc 5 1, 3) := by decide +kernel
theorem dX4_pebbles_50 : decode cX4_pebbles 50 = .ok (.goto (-22), 3) := by decide +kernel
theorem dX4_pebbles_53 : decode cX4_pebbles 53 = .ok (.iload 4, 2) := by decide +kernel
theorem dX4_pebbles_55 : decode cX4_pebbles 55 = .ok (.iload_n 2, 1) := by decide +kernel
theorem dX4_pebbles_56 : decode cX4_pebbles 56 = .ok (.if_icmp .gt 6, 3) := by decide +kernel
theorem dX4_pebbles_59 : decode cX4_pebbles 59 = .ok (.bipush (-9), 2) := by decide +kernel
theorem dX4_pebbles_61 : decode cX4_pebbles 61 = .ok (.ireturn, 1) := by decide +kernel
theorem dX4_pebbles_62 : decode cX4_pebbles 62 = .ok (.iload_n 3, 1) := by decide +kernel
theorem dX4_pebbles_63 : decode cX4_pebbles 63 = .ok (.ifCond .eq 14, 3) := by decide +kernel
theorem dX4_pebbles_66 : decode cX4_pebbles 66 = .ok (.iload_n 2, 1) := by decide +kernel
theorem dX4_pebbles_67 : decode cX4_pebbles 67 = .ok (.ifCond .le 10, 3) := by decide +kernel
theorem dX4_pebbles_70 : decode cX4_pebbles 70 = .ok (.iload 5, 2) := by decide +kernel
theorem dX4_pebbles_72 : decode cX4_pebbles 72 = .ok (.iconst 1, 1) := by decide +kernel
theorem dX4_pebbles_73 : decode cX4_pebbles 73 = .ok (.iadd, 1) := by decide +kernel
theorem dX4_pebbles_74 : decode cX4_pebbles 74 = .ok (.goto 5, 3) := by decide +kernel
theorem dX4_pebbles_77 : decode cX4_pebbles 77 = .ok (.iload 5, 2) := by decide +kernel
theorem dX4_pebbles_79 : decode cX4_pebbles 79 = .ok (.ireturn, 1) := by decide +kernel
set_option maxRecDepth 20000 in
theorem ggX4_tell_X4_within : GoodIn wsX4_tell wsX4_within := goodIn_r _ [7] (by decide +kernel) (by decide +kernel)
set_option maxRecDepth 20000 in
theorem gX4_tell_X4_within : GoodIn wsX4_tell (va_wsS RX4 61 yX4_within wsX4_within) := goodIn_app (goodIn_of _ (by decide +kernel)) ggX4_tell_X4_within
theorem dX4_tell_0 : decode cX4_tell 0 = .ok (.iload_n 1, 1) := by decide +kernel
theorem dX4_tell_1 : decode cX4_tell 1 = .ok (.iconst 0, 1) := by decide +kernel
theorem dX4_tell_2 : decode cX4_tell 2 = .ok (.bipush 8, 2) := by decide +kernel
theorem dX4_tell_4 : decode cX4_tell 4 = .ok (.invokestatic 61, 3) := by decide +kernel
theorem dX4_tell_7 : decode cX4_tell 7 = .ok (.ifCond .ne 6, 3) := by decide +kernel
theorem dX4_tell_10 : decode cX4_tell 10 = .ok (.bipush (-2), 2) := by decide +kernel
theorem dX4_tell_12 : decode cX4_tell 12 = .ok (.ireturn, 1) := by decide +kernel
theorem dX4_tell_13 : decode cX4_tell 13 = .ok (.aload_n 0, 1) := by decide +kernel
theorem dX4_tell_14 : decode cX4_tell 14 = .ok (.getfield 54, 3) := by decide +kernel
theorem dX4_tell_17 : decode cX4_tell 17 = .ok (.bipush 6, 2) := by decide +kernel
theorem dX4_tell_19 : decode cX4_tell 19 = .ok (.if_icmp .lt 6, 3) := by decide +kernel
theorem dX4_tell_22 : decode cX4_tell 22 = .ok (.bipush (-4), 2) := by decide +kernel
theorem dX4_tell_24 : decode cX4_tell 24 = .ok (.ireturn, 1) := by decide +kernel
theorem dX4_tell_25 : decode cX4_tell 25 = .ok (.iload_n 2, 1) := by decide +kernel
theorem dX4_tell_26 : decode cX4_tell 26 = .ok (.ifCond .eq 18, 3) := by decide +kernel
theorem dX4_tell_29 : decode cX4_tell 29 = .ok (.aload_n 0, 1) := by decide +kernel
theorem dX4_tell_30 : decode cX4_tell 30 = .ok (.dup, 1) := by decide +kernel
theorem dX4_tell_31 : decode cX4_tell 31 = .ok (.getfield 48, 3) := by decide +kernel
theorem dX4_tell_34 : decode cX4_tell 34 = .ok (.iconst 1, 1) := by decide +kernel
theorem dX4_tell_35 : decode cX4_tell 35 = .ok (.iload_n 1, 1) := by decide +kernel
theorem dX4_tell_36 : decode cX4_tell 36 = .ok (.ishl, 1) := by decide +kernel
theorem dX4_tell_37 : decode cX4_tell 37 = .ok (.ior, 1) := by decide +kernel
theorem dX4_tell_38 : decode cX4_tell 38 = .ok (.putfield 48, 3) := by decide +kernel
theorem dX4_tell_41 : decode cX4_tell 41 = .ok (.goto 15, 3) := by decide +kernel
theorem dX4_tell_44 : decode cX4_tell 44 = .ok (.aload_n 0, 1) := by decide +kernel
theorem dX4_tell_45 : decode cX4_tell 45 = .ok (.dup, 1) := by decide +kernel
theorem dX4_tell_46 : decode cX4_tell 46 = .ok (.getfield 51, 3) := by decide +kernel
theorem dX4_tell_49 : decode cX4_tell 49 = .ok (.iconst 1, 1) := by decide +kernel
theorem dX4_tell_50 : decode cX4_tell 50 = .ok (.iload_n 1, 1) := by decide +kernel
theorem dX4_tell_51 : decode cX4_tell 51 = .ok (.ishl, 1) := by decide +kernel
theorem dX4_tell_52 : decode cX4_tell 52 = .ok (.ior, 1) := by decide +kernel
theorem dX4_tell_53 : decode cX4_tell 53 = .ok (.putfield 51, 3) := by decide +kernel
theorem dX4_tell_56 : decode cX4_tell 56 = .ok (.aload_n 0, 1) := by decide +kernel
theorem dX4_tell_57 : decode cX4_tell 57 = .ok (.dup, 1) := by decide +kernel
theorem dX4_tell_58 : decode cX4_tell 58 = .ok (.getfield 54, 3) := by decide +kernel
theorem dX4_tell_61 : decode cX4_tell 61 = .ok (.iconst 1, 1) := by decide +kernel
theorem dX4_tell_62 : decode cX4_tell 62 = .ok (.iadd, 1) := by decide +kernel
theorem dX4_tell_63 : decode cX4_tell 63 = .ok (.putfield 54, 3) := by decide +kernel
theorem dX4_tell_66 : decode cX4_tell 66 = .ok (.aload_n 0, 1) := by decide +kernel
theorem dX4_tell_67 : decode cX4_tell 67 = .ok (.getfield 54, 3) := by decide +kernel
theorem dX4_tell_70 : decode cX4_tell 70 = .ok (.ireturn, 1) := by decide +kernel
theorem dX4_untell_0 : decode cX4_untell 0 = .ok (.aload_n 0, 1) := by decide +kernel
theorem dX4_untell_1 : decode cX4_untell 1 = .ok (.getfield 54, 3) := by decide +kernel
theorem dX4_untell_4 : decode cX4_untell 4 = .ok (.istore_n 1, 1) := by decide +kernel
theorem dX4_untell_5 : decode cX4_untell 5 = .ok (.aload_n 0, 1) := by decide +kernel
theorem dX4_untell_6 : decode cX4_untell 6 = .ok (.iconst 0, 1) := by decide +kernel
theorem dX4_untell_7 : decode cX4_untell 7 = .ok (.putfield 48, 3) := by decide +kernel
theorem dX4_untell_10 : decode cX4_untell 10 = .ok (.aload_n 0, 1) := by decide +kernel
theorem dX4_untell_11 : decode cX4_untell 11 = .ok (.iconst 0, 1) := by decide +kernel
theorem dX4_untell_12 : decode cX4_untell 12 = .ok (.putfield 51, 3) := by decide +kernel
theorem dX4_untell_15 : decode cX4_untell 15 = .ok (.aload_n 0, 1) := by decide +kernel
theorem dX4_untell_16 : decode cX4_untell 16 = .ok (.iconst 0, 1) := by decide +kernel
theorem dX4_untell_17 : decode cX4_untell 17 = .ok (.putfield 54, 3) := by decide +kernel
theorem dX4_untell_20 : decode cX4_untell 20 = .ok (.iload_n 1, 1) := by decide +kernel
theorem dX4_untell_21 : decode cX4_untell 21 = .ok (.ireturn, 1) := by decide +kernel
theorem dX4_letGo_0 : decode cX4_letGo 0 = .ok (.iconst 0, 1) := by decide +kernel
theorem dX4_letGo_1 : decode cX4_letGo 1 = .ok (.istore_n 2, 1) := by decide +kernel
theorem dX4_letGo_2 : decode cX4_letGo 2 = .ok (.iconst 0, 1) := by decide +kernel
theorem dX4_letGo_3 : decode cX4_letGo 3 = .ok (.istore_n 3, 1) := by decide +kernel
theorem dX4_letGo_4 : decode cX4_letGo 4 = .ok (.iload_n 3, 1) := by decide +kernel
theorem dX4_letGo_5 : decode cX4_letGo 5 = .ok (.bipush 9, 2) := by decide +kernel
theorem dX4_letGo_7 : decode cX4_letGo 7 = .ok (.if_icmp .gt 72, 3) := by decide +kernel
theorem dX4_letGo_10 : decode cX4_letGo 10 = .ok (.iconst 1, 1) := by decide +kernel
theorem dX4_letGo_11 : decode cX4_letGo 11 = .ok (.iload_n 3, 1) := by decide +kernel
theorem dX4_letGo_12 : decode cX4_letGo 12 = .ok (.ishl, 1) := by decide +kernel
theorem dX4_letGo_13 : decode cX4_letGo 13 = .ok (.iconst 1, 1) := by decide +kernel
theorem dX4_letGo_14 : decode cX4_letGo 14 = .ok (.isub, 1) := by decide +kernel
theorem dX4_letGo_15 : decode cX4_letGo 15 = .ok (.istore 4, 2) := by decide +kernel
theorem dX4_letGo_17 : decode cX4_letGo 17 = .ok (.aload_n 0, 1) := by decide +kernel
theorem dX4_letGo_18 : decode cX4_letGo 18 = .ok (.getfield 48, 3) := by decide +kernel
theorem dX4_letGo_21 : decode cX4_letGo 21 = .ok (.iload 4, 2) := by decide +kernel
theorem dX4_letGo_23 : decode cX4_letGo 23 = .ok (.iconst (-1), 1) := by decide +kernel
theorem dX4_letGo_24 : decode cX4_letGo 24 = .ok (.ixor, 1) := by decide +kernel
theorem dX4_letGo_25 : decode cX4_letGo 25 = .ok (.iand, 1) := by decide +kernel
theorem dX4_letGo_26 : decode cX4_letGo 26 = .ok (.ifCond .ne 7, 3) := by decide +kernel
theorem dX4_letGo_29 : decode cX4_letGo 29 = .ok (.iconst 1, 1) := by decide +kernel
theorem dX4_letGo_30 : decode cX4_letGo 30 = .ok (.goto 4, 3) := by decide +kernel
theorem dX4_letGo_33 : decode cX4_letGo 33 = .ok (.iconst 0, 1) := by decide +kernel
theorem dX4_letGo_34 : decode cX4_letGo 34 = .ok (.istore 5, 2) := by decide +kernel
theorem dX4_letGo_36 : decode cX4_letGo 36 = .ok (.iload_n 1, 1) := by decide +kernel
theorem dX4_letGo_37 : decode cX4_letGo 37 = .ok (.ifCond .eq 13, 3) := by decide +kernel
theorem dX4_letGo_40 : decode cX4_letGo 40 = .ok (.aload_n 0, 1) := by decide +kernel
theorem dX4_letGo_41 : decode cX4_letGo 41 = .ok (.getfield 51, 3) := by decide +kernel
theorem dX4_letGo_44 : decode cX4_letGo 44 = .ok (.iload 4, 2) := by decide +kernel
theorem dX4_letGo_46 : decode cX4_letGo 46 = .ok (.iand, 1) := by decide +kernel
theorem dX4_letGo_47 : decode cX4_letGo 47 = .ok (.ifCond .ne 7, 3) := by decide +kernel
theorem dX4_letGo_50 : decode cX4_letGo 50 = .ok (.iconst 1, 1) := by decide +kernel
theorem dX4_letGo_51 : decode cX4_letGo 51 = .ok (.goto 4, 3) := by decide +kernel
theorem dX4_letGo_54 : decode cX4_letGo 54 = .ok (.iconst 0, 1) := by decide +kernel
theorem dX4_letGo_55 : decode cX4_letGo 55 = .ok (.istore 6, 2) := by decide +kernel
theorem dX4_letGo_57 : decode cX4_letGo 57 = .ok (.iload 5, 2) := by decide +kernel
theorem dX4_letGo_59 : decode cX4_letGo 59 = .ok (.ifCond .eq 14, 3) := by decide +kernel
theorem dX4_letGo_62 : decode cX4_letGo 62 = .ok (.iload 6, 2) := by decide +kernel
theorem dX4_letGo_64 : decode cX4_letGo 64 = .ok (.ifCond .eq 9, 3) := by decide +kernel
theorem dX4_letGo_67 : decode cX4_letGo 67 = .ok (.iload_n 2, 1) := by decide +kernel
theorem dX4_letGo_68 : decode cX4_letGo 68 = .ok (.iconst 1, 1) := by decide +kernel
theorem dX4_letGo_69 : decode cX4_letGo 69 = .ok (.iload_n 3, 1) := by decide +kernel
theorem dX4_letGo_70 : decode cX4_letGo 70 = .ok (.ishl, 1) := by decide +kernel
theorem dX4_letGo_71 : decode cX4_letGo 71 = .ok (.ior, 1) := by decide +kernel
theorem dX4_letGo_72 : decode cX4_letGo 72 = .ok (.istore_n 2, 1) := by decide +kernel
theorem dX4_letGo_73 : decode cX4_letGo 73 = .ok (.iinc 3 1, 3) := by decide +kernel
theorem dX4_letGo_76 : decode cX4_letGo 76 = .ok (.goto (-72), 3) := by decide +kernel
theorem dX4_letGo_79 : decode cX4_letGo 79 = .ok (.iload_n 2, 1) := by decide +kernel
theorem dX4_letGo_80 : decode cX4_letGo 80 = .ok (.ireturn, 1) := by decide +kernel
set_option maxRecDepth 20000 in
theorem ggX4_link_X4_within : GoodIn wsX4_link wsX4_within := goodIn_r _ [4] (by decide +kernel) (by decide +kernel)
set_option maxRecDepth 20000 in
theorem gX4_link_X4_within : GoodIn wsX4_link (va_wsS RX4 61 yX4_within wsX4_within) := goodIn_app (goodIn_of _ (by decide +kernel)) ggX4_link_X4_within
set_option maxRecDepth 20000 in
theorem ggX4_link_X4_isTenths : GoodIn wsX4_link wsX4_isTenths := goodIn_r _ [7, 1, 2, 3, 4] (by decide +kernel) (by decide +kernel)
set_option maxRecDepth 20000 in
theorem gX4_link_X4_isTenths : GoodIn wsX4_link (va_wsS RX4 213 yX4_isTenths wsX4_isTenths) := goodIn_app (goodIn_of _ (by decide +kernel)) ggX4_link_X4_isTenths
set_option maxRecDepth 20000 in
theorem ggX4_link_X4_longestSilence : GoodIn wsX4_link wsX4_longestSilence := goodIn_r _ [10, 11, 12, 13, 14] (by decide +kernel) (by decide +kernel)
set_option maxRecDepth 20000 in
theorem gX4_link_X4_longestSilence : GoodIn wsX4_link (va_wsS RX4 218 yX4_longestSilence wsX4_longestSilence) := goodIn_app (goodIn_of _ (by decide +kernel)) ggX4_link_X4_longestSilence
set_option maxRecDepth 20000 in
theorem ggX4_link_J6_bitCount_0f7a4 : GoodIn wsX4_link wsJ6_bitCount_0f7a4 := goodIn_r _ [18, 19, 20, 21] (by decide +kernel) (by decide +kernel)
set_option maxRecDepth 20000 in
theorem gX4_link_J6_bitCount_0f7a4 : GoodIn wsX4_link (va_wsS RX4 190 yJ6_bitCount_0f7a4 wsJ6_bitCount_0f7a4) := goodIn_app (goodIn_of _ (by decide +kernel)) ggX4_link_J6_bitCount_0f7a4
set_option maxRecDepth 20000 in
theorem ggX4_link_X4_power : GoodIn wsX4_link wsX4_power := goodIn_r _ [24] (by decide +kernel) (by decide +kernel)
set_option maxRecDepth 20000 in
theorem gX4_link_X4_power : GoodIn wsX4_link (va_wsS RX4 221 yX4_power wsX4_power) := goodIn_app (goodIn_of _ (by decide +kernel)) ggX4_link_X4_power
set_option maxRecDepth 20000 in
theorem ggX4_link_X4_fraction : GoodIn wsX4_link wsX4_fraction := goodIn_r _ [27, 28, 29, 13, 30, 31, 32, 3, 33] (by decide +kernel) (by decide +kernel)
set_option maxRecDepth 20000 in
theorem gX4_link_X4_fraction : GoodIn wsX4_link (va_wsS RX4 186 yX4_fraction wsX4_fraction) := goodIn_app (goodIn_of _ (by decide +kernel)) ggX4_link_X4_fraction
theorem dX4_link_0 : decode cX4_link 0 = .ok (.iload_n 1, 1) := by decide +kernel
theorem dX4_link_1 : decode cX4_link 1 = .ok (.iconst 0, 1) := by decide +kernel
theorem dX4_link_2 : decode cX4_link 2 = .ok (.iconst 5, 1) := by decide +kernel
theorem dX4_link_3 : decode cX4_link 3 = .ok (.invokestatic 61, 3) := by decide +kernel
theorem dX4_link_6 : decode cX4_link 6 = .ok (.ifCond .eq 20, 3) := by decide +kernel
theorem dX4_link_9 : decode cX4_link 9 = .ok (.iload_n 2, 1) := by decide +kernel
theorem dX4_link_10 : decode cX4_link 10 = .ok (.invokestatic 213, 3) := by decide +kernel
theorem dX4_link_13 : decode cX4_link 13 = .ok (.ifCond .eq 13, 3) := by decide +kernel
theorem dX4_link_16 : decode cX4_link 16 = .ok (.iload_n 3, 1) := by decide +kernel
theorem dX4_link_17 : decode cX4_link 17 = .ok (.iconst 0, 1) := by decide +kernel
theorem dX4_link_18 : decode cX4_link 18 = .ok (.bipush 6, 2) := by decide +kernel
theorem dX4_link_20 : decode cX4_link 20 = .ok (.invokestatic 61, 3) := by decide +kernel
theorem dX4_link_23 : decode cX4_link 23 = .ok (.ifCond .ne 6, 3) := by decide +kernel
theorem dX4_link_26 : decode cX4_link 26 = .ok (.bipush (-2), 2) := by decide +kernel
theorem dX4_link_28 : decode cX4_link 28 = .ok (.ireturn, 1) := by decide +kernel
theorem dX4_link_29 : decode cX4_link 29 = .ok (.lconst 0, 1) := by decide +kernel
theorem dX4_link_30 : decode cX4_link 30 = .ok (.lstore 5, 2) := by decide +kernel
theorem dX4_link_32 : decode cX4_link 32 = .ok (.iconst 0, 1) := by decide +kernel
theorem dX4_link_33 : decode cX4_link 33 = .ok (.istore 7, 2) := by decide +kernel
theorem dX4_link_35 : decode cX4_link 35 = .ok (.iload 7, 2) := by decide +kernel
theorem dX4_link_37 : decode cX4_link 37 = .ok (.iconst 1, 1) := by decide +kernel
theorem dX4_link_38 : decode cX4_link 38 = .ok (.iload_n 3, 1) := by decide +kernel
theorem dX4_link_39 : decode cX4_link 39 = .ok (.ishl, 1) := by decide +kernel
theorem dX4_link_40 : decode cX4_link 40 = .ok (.if_icmp .ge 49, 3) := by decide +kernel
theorem dX4_link_43 : decode cX4_link 43 = .ok (.iload 7, 2) := by decide +kernel
theorem dX4_link_45 : decode cX4_link 45 = .ok (.iload_n 3, 1) := by decide +kernel
theorem dX4_link_46 : decode cX4_link 46 = .ok (.invokestatic 218, 3) := by decide +kernel
theorem dX4_link_49 : decode cX4_link 49 = .ok (.iload_n 1, 1) := by decide +kernel
theorem dX4_link_50 : decode cX4_link 50 = .ok (.if_icmp .gt 33, 3) := by decide +kernel
theorem dX4_link_53 : decode cX4_link 53 = .ok (.iload 7, 2) := by decide +kernel
theorem dX4_link_55 : decode cX4_link 55 = .ok (.invokestatic 190, 3) := by decide +kernel
theorem dX4_link_58 : decode cX4_link 58 = .ok (.istore 8, 2) := by decide +kernel
theorem dX4_link_60 : decode cX4_link 60 = .ok (.lload 5, 2) := by decide +kernel
theorem dX4_link_62 : decode cX4_link 62 = .ok (.iload_n 2, 1) := by decide +kernel
theorem dX4_link_63 : decode cX4_link 63 = .ok (.iload 8, 2) := by decide +kernel
theorem dX4_link_65 : decode cX4_link 65 = .ok (.invokestatic 221, 3) := by decide +kernel
theorem dX4_link_68 : decode cX4_link 68 = .ok (.bipush 10, 2) := by decide +kernel
theorem dX4_link_70 : decode cX4_link 70 = .ok (.iload_n 2, 1) := by decide +kernel
theorem dX4_link_71 : decode cX4_link 71 = .ok (.isub, 1) := by decide +kernel
theorem dX4_link_72 : decode cX4_link 72 = .ok (.iload_n 3, 1) := by decide +kernel
theorem dX4_link_73 : decode cX4_link 73 = .ok (.iload 8, 2) := by decide +kernel
theorem dX4_link_75 : decode cX4_link 75 = .ok (.isub, 1) := by decide +kernel
theorem dX4_link_76 : decode cX4_link 76 = .ok (.invokestatic 221, 3) := by decide +kernel
theorem dX4_link_79 : decode cX4_link 79 = .ok (.lmul, 1) := by decide +kernel
theorem dX4_link_80 : decode cX4_link 80 = .ok (.ladd, 1) := by decide +kernel
theorem dX4_link_81 : decode cX4_link 81 = .ok (.lstore 5, 2) := by decide +kernel
theorem dX4_link_83 : decode cX4_link 83 = .ok (.iinc 7 1, 3) := by decide +kernel
theorem dX4_link_86 : decode cX4_link 86 = .ok (.goto (-51), 3) := by decide +kernel
theorem dX4_link_89 : decode cX4_link 89 = .ok (.lload 5, 2) := by decide +kernel
theorem dX4_link_91 : decode cX4_link 91 = .ok (.bipush 10, 2) := by decide +kernel
theorem dX4_link_93 : decode cX4_link 93 = .ok (.iload_n 3, 1) := by decide +kernel
theorem dX4_link_94 : decode cX4_link 94 = .ok (.invokestatic 221, 3) := by decide +kernel
theorem dX4_link_97 : decode cX4_link 97 = .ok (.iload 4, 2) := by decide +kernel
theorem dX4_link_99 : decode cX4_link 99 = .ok (.invokestatic 186, 3) := by decide +kernel
theorem dX4_link_102 : decode cX4_link 102 = .ok (.ireturn, 1) := by decide +kernel
theorem dX4_seed_0 : decode cX4_seed 0 = .ok (.aload_n 0, 1) := by decide +kernel
theorem dX4_seed_1 : decode cX4_seed 1 = .ok (.getfield 57, 3) := by decide +kernel
theorem dX4_seed_4 : decode cX4_seed 4 = .ok (.lstore_n 3, 1) := by decide +kernel
theorem dX4_seed_5 : decode cX4_seed 5 = .ok (.aload_n 0, 1) := by decide +kernel
theorem dX4_seed_6 : decode cX4_seed 6 = .ok (.lload_n 1, 1) := by decide +kernel
theorem dX4_seed_7 : decode cX4_seed 7 = .ok (.putfield 57, 3) := by decide +kernel
theorem dX4_seed_10 : decode cX4_seed 10 = .ok (.lload_n 3, 1) := by decide +kernel
theorem dX4_seed_11 : decode cX4_seed 11 = .ok (.lreturn, 1) := by decide +kernel
set_option maxRecDepth 20000 in
theorem ggX4_gorges_X4_within : GoodIn wsX4_gorges wsX4_within := goodIn_r _ [10] (by decide +kernel) (by decide +kernel)
set_option maxRecDepth 20000 in
theorem gX4_gorges_X4_within : GoodIn wsX4_gorges (va_wsS RX4 61 yX4_within wsX4_within) := goodIn_app (goodIn_of _ (by decide +kernel)) ggX4_gorges_X4_within
set_option maxRecDepth 20000 in
theorem ggX4_gorges_X1_light : GoodIn wsX4_gorges wsX1_light := goodIn_r _ [15, 16, 106, 107, 108, 109, 110] (by decide +kernel) (by decide +kernel)
set_option maxRecDepth 20000 in
theorem gX4_gorges_X1_light : GoodIn wsX4_gorges (wsV RX4 92 RX1 yX1_light wsX1_light) := goodIn_app (goodIn_of _ (by decide +kernel)) ggX4_gorges_X1_light
set_option maxRecDepth 20000 in
theorem ggX4_gorges_X3_place : GoodIn wsX4_gorges wsX3_place := goodIn_r _ [21, 22, 111, 112, 113, 114, 115] (by decide +kernel) (by decide +kernel)
set_option maxRecDepth 20000 in
theorem gX4_gorges_X3_place : GoodIn wsX4_gorges (wsV RX4 98 RX3 yX3_place wsX3_place) := goodIn_app (goodIn_of _ (by decide +kernel)) ggX4_gorges_X3_place
set_option maxRecDepth 20000 in
theorem ggX4_gorges_X3_state : GoodIn wsX4_gorges wsX3_state := goodIn_r _ [26, 22, 27, 28, 111, 112, 113, 114, 115] (by decide +kernel) (by decide +kernel)
set_option maxRecDepth 20000 in
theorem gX4_gorges_X3_state : GoodIn wsX4_gorges (wsV RX4 164 RX3 yX3_state wsX3_state) := goodIn_app (goodIn_of _ (by decide +kernel)) ggX4_gorges_X3_state
set_option maxRecDepth 20000 in
theorem ggX4_gorges_X3_become : GoodIn wsX4_gorges wsX3_become := goodIn_r _ [32, 33, 28, 27, 22, 111, 112, 113, 114, 115] (by decide +kernel) (by decide +kernel)
set_option maxRecDepth 20000 in
theorem gX4_gorges_X3_become : GoodIn wsX4_gorges (wsV RX4 154 RX3 yX3_become wsX3_become) := goodIn_app (goodIn_of _ (by decide +kernel)) ggX4_gorges_X3_become
set_option maxRecDepth 20000 in
theorem ggX4_gorges_X3_step : GoodIn wsX4_gorges wsX3_step := goodIn_r _ [37, 38, 22, 39, 40, 41, 20, 42, 28, 43, 44, 45, 46, 47, 48, 49, 50, 51, 52, 53, 54, 55, 56, 57, 14, 58, 59, 60, 61, 62, 63, 64, 65, 66, 67, 68, 69, 70, 71, 72, 73, 27, 74, 75, 76, 77, 78, 79, 80, 81, 82, 83, 84, 85, 86, 87, 88, 89, 90, 91, 92, 93, 111, 112, 113, 114, 115, 106, 107, 108, 109, 110] (by decide +kernel) (by decide +kernel)
set_option maxRecDepth 20000 in
theorem gX4_gorges_X3_step : GoodIn wsX4_gorges (wsV RX4 141 RX3 yX3_step wsX3_step) := goodIn_app (goodIn_of _ (by decide +kernel)) ggX4_gorges_X3_step
set_option maxRecDepth 20000 in
theorem ggX4_gorges_X3_size : GoodIn wsX4_gorges wsX3_size := goodIn_r _ [42, 28, 43, 44, 45, 46, 47, 48, 49, 111, 112, 113, 114, 115] (by decide +kernel) (by decide +kernel)
set_option maxRecDepth 20000 in
theorem gX4_gorges_X3_size : GoodIn wsX4_gorges (wsV RX4 144 RX3 yX3_size wsX3_size) := goodIn_app (goodIn_of _ (by decide +kernel)) ggX4_gorges_X3_size
theorem dX4_gorges_0 : decode cX4_gorges 0 = .ok (.iload_n 1, 1) := by decide +kernel
theorem dX4_gorges_1 : decode cX4_gorges 1 = .ok (.iconst 1, 1) := by decide +kernel
theorem dX4_gorges_2 : decode cX4_gorges 2 = .ok (.bipush 20, 2) := by decide +kernel
theorem dX4_gorges_4 : decode cX4_gorges 4 = .ok (.invokestatic 61, 3) := by decide +kernel
theorem dX4_gorges_7 : decode cX4_gorges 7 = .ok (.ifCond .ne 6, 3) := by decide +kernel
theorem dX4_gorges_10 : decode cX4_gorges 10 = .ok (.bipush (-2), 2) := by decide +kernel
theorem dX4_gorges_12 : decode cX4_gorges 12 = .ok (.ireturn, 1) := by decide +kernel
theorem dX4_gorges_13 : decode cX4_gorges 13 = .ok (.aload_n 0, 1) := by decide +kernel
theorem dX4_gorges_14 : decode cX4_gorges 14 = .ok (.getfield 19, 3) := by decide +kernel
theorem dX4_gorges_17 : decode cX4_gorges 17 = .ok (.invokevirtual 92, 3) := by decide +kernel
theorem dX4_gorges_20 : decode cX4_gorges 20 = .ok (.aload_n 0, 1) := by decide +kernel
theorem dX4_gorges_21 : decode cX4_gorges 21 = .ok (.getfield 28, 3) := by decide +kernel
theorem dX4_gorges_24 : decode cX4_gorges 24 = .ok (.invokevirtual 98, 3) := by decide +kernel
theorem dX4_gorges_27 : decode cX4_gorges 27 = .ok (.isub, 1) := by decide +kernel
theorem dX4_gorges_28 : decode cX4_gorges 28 = .ok (.istore_n 2, 1) := by decide +kernel
theorem dX4_gorges_29 : decode cX4_gorges 29 = .ok (.iconst 0, 1) := by decide +kernel
theorem dX4_gorges_30 : decode cX4_gorges 30 = .ok (.istore_n 3, 1) := by decide +kernel
theorem dX4_gorges_31 : decode cX4_gorges 31 = .ok (.iconst 0, 1) := by decide +kernel
theorem dX4_gorges_32 : decode cX4_gorges 32 = .ok (.istore 4, 2) := by decide +kernel
theorem dX4_gorges_34 : decode cX4_gorges 34 = .ok (.iload 4, 2) := by decide +kernel
theorem dX4_gorges_36 : decode cX4_gorges 36 = .ok (.iload_n 1, 1) := by decide +kernel
theorem dX4_gorges_37 : decode cX4_gorges 37 = .ok (.if_icmp .ge 83, 3) := by decide +kernel
theorem dX4_gorges_40 : decode cX4_gorges 40 = .ok (.aload_n 0, 1) := by decide +kernel
theorem dX4_gorges_41 : decode cX4_gorges 41 = .ok (.getfield 32, 3) := by decide +kernel
theorem dX4_gorges_44 : decode cX4_gorges 44 = .ok (.aload_n 0, 1) := by decide +kernel
theorem dX4_gorges_45 : decode cX4_gorges 45 = .ok (.getfield 28, 3) := by decide +kernel
theorem dX4_gorges_48 : decode cX4_gorges 48 = .ok (.invokevirtual 164, 3) := by decide +kernel
theorem dX4_gorges_51 : decode cX4_gorges 51 = .ok (.invokevirtual 154, 3) := by decide +kernel
theorem dX4_gorges_54 : decode cX4_gorges 54 = .ok (.iconst 0, 1) := by decide +kernel
theorem dX4_gorges_55 : decode cX4_gorges 55 = .ok (.istore 5, 2) := by decide +kernel
theorem dX4_gorges_57 : decode cX4_gorges 57 = .ok (.iload 5, 2) := by decide +kernel
theorem dX4_gorges_59 : decode cX4_gorges 59 = .ok (.iload_n 2, 1) := by decide +kernel
theorem dX4_gorges_60 : decode cX4_gorges 60 = .ok (.if_icmp .ge 44, 3) := by decide +kernel
theorem dX4_gorges_63 : decode cX4_gorges 63 = .ok (.aload_n 0, 1) := by decide +kernel
theorem dX4_gorges_64 : decode cX4_gorges 64 = .ok (.aload_n 0, 1) := by decide +kernel
theorem dX4_gorges_65 : decode cX4_gorges 65 = .ok (.getfield 57, 3) := by decide +kernel
theorem dX4_gorges_68 : decode cX4_gorges 68 = .ok (.ldc2_w 225, 3) := by decide +kernel
theorem dX4_gorges_71 : decode cX4_gorges 71 = .ok (.lmul, 1) := by decide +kernel
theorem dX4_gorges_72 : decode cX4_gorges 72 = .ok (.ldc2_w 227, 3) := by decide +kernel
theorem dX4_gorges_75 : decode cX4_gorges 75 = .ok (.ladd, 1) := by decide +kernel
theorem dX4_gorges_76 : decode cX4_gorges 76 = .ok (.putfield 57, 3) := by decide +kernel
theorem dX4_gorges_79 : decode cX4_gorges 79 = .ok (.aload_n 0, 1) := by decide +kernel
theorem dX4_gorges_80 : decode cX4_gorges 80 = .ok (.getfield 32, 3) := by decide +kernel
theorem dX4_gorges_83 : decode cX4_gorges 83 = .ok (.aload_n 0, 1) := by decide +kernel
theorem dX4_gorges_84 : decode cX4_gorges 84 = .ok (.getfield 57, 3) := by decide +kernel
theorem dX4_gorges_87 : decode cX4_gorges 87 = .ok (.bipush 33, 2) := by decide +kernel
theorem dX4_gorges_89 : decode cX4_gorges 89 = .ok (.lushr, 1) := by decide +kernel
theorem dX4_gorges_90 : decode cX4_gorges 90 = .ok (.l2i, 1) := by decide +kernel
theorem dX4_gorges_91 : decode cX4_gorges 91 = .ok (.bipush 31, 2) := by decide +kernel
theorem dX4_gorges_93 : decode cX4_gorges 93 = .ok (.iand, 1) := by decide +kernel
theorem dX4_gorges_94 : decode cX4_gorges 94 = .ok (.invokevirtual 141, 3) := by decide +kernel
theorem dX4_gorges_97 : decode cX4_gorges 97 = .ok (.pop, 1) := by decide +kernel
theorem dX4_gorges_98 : decode cX4_gorges 98 = .ok (.iinc 5 1, 3) := by decide +kernel
theorem dX4_gorges_101 : decode cX4_gorges 101 = .ok (.goto (-44), 3) := by decide +kernel
theorem dX4_gorges_104 : decode cX4_gorges 104 = .ok (.iload_n 3, 1) := by decide +kernel
theorem dX4_gorges_105 : decode cX4_gorges 105 = .ok (.aload_n 0, 1) := by decide +kernel
theorem dX4_gorges_106 : decode cX4_gorges 106 = .ok (.getfield 32, 3) := by decide +kernel
theorem dX4_gorges_109 : decode cX4_gorges 109 = .ok (.invokevirtual 144, 3) := by decide +kernel
theorem dX4_gorges_112 : decode cX4_gorges 112 = .ok (.iadd, 1) := by decide +kernel
theorem dX4_gorges_113 : decode cX4_gorges 113 = .ok (.istore_n 3, 1) := by decide +kernel
theorem dX4_gorges_114 : decode cX4_gorges 114 = .ok (.iinc 4 1, 3) := by decide +kernel
theorem dX4_gorges_117 : decode cX4_gorges 117 = .ok (.goto (-83), 3) := by decide +kernel
theorem dX4_gorges_120 : decode cX4_gorges 120 = .ok (.iload_n 3, 1) := by decide +kernel
theorem dX4_gorges_121 : decode cX4_gorges 121 = .ok (.ireturn, 1) := by decide +kernel
theorem dX4_longestSilence_0 : decode cX4_longestSilence 0 = .ok (.iconst 0, 1) := by decide +kernel
theorem dX4_longestSilence_1 : decode cX4_longestSilence 1 = .ok (.istore_n 2, 1) := by decide +kernel
theorem dX4_longestSilence_2 : decode cX4_longestSilence 2 = .ok (.iconst 0, 1) := by decide +kernel
theorem dX4_longestSilence_3 : decode cX4_longestSilence 3 = .ok (.istore_n 3, 1) := by decide +kernel
theorem dX4_longestSilence_4 : decode cX4_longestSilence 4 = .ok (.iconst 0, 1) := by decide +kernel
theorem dX4_longestSilence_5 : decode cX4_longestSilence 5 = .ok (.istore 4, 2) := by decide +kernel
theorem dX4_longestSilence_7 : decode cX4_longestSilence 7 = .ok (.iload 4, 2) := by decide +kernel
theorem dX4_longestSilence_9 : decode cX4_longestSilence 9 = .ok (.iload_n 1, 1) := by decide +kernel
theorem dX4_longestSilence_10 : decode cX4_longestSilence 10 = .ok (.if_icmp .ge 33, 3) := by decide +kernel
theorem dX4_longestSilence_13 : decode cX4_longestSilence 13 = .ok (.iload_n 0, 1) := by decide +kernel
theorem dX4_longestSilence_14 : decode cX4_longestSilence 14 = .ok (.iload 4, 2) := by decide +kernel
theorem dX4_longestSilence_16 : decode cX4_longestSilence 16 = .ok (.ishr, 1) := by decide +kernel
theorem dX4_longestSilence_17 : decode cX4_longestSilence 17 = .ok (.iconst 1, 1) := by decide +kernel
theorem dX4_longestSilence_18 : decode cX4_longestSilence 18 = .ok (.iand, 1) := by decide +kernel
theorem dX4_longestSilence_19 : decode cX4_longestSilence 19 = .ok (.iconst 1, 1) := by decide +kernel
theorem dX4_longestSilence_20 : decode cX4_longestSilence 20 = .ok (.if_icmp .ne 7, 3) := by decide +kernel
theorem dX4_longestSilence_23 : decode cX4_longestSilence 23 = .ok (.iconst 0, 1) := by decide +kernel
theorem dX4_longestSilence_24 : decode cX4_longestSilence 24 = .ok (.goto 6, 3) := by decide +kernel
theorem dX4_longestSilence_27 : decode cX4_longestSilence 27 = .ok (.iload_n 3, 1) := by decide +kernel
theorem dX4_longestSilence_28 : decode cX4_longestSilence 28 = .ok (.iconst 1, 1) := by decide +kernel
theorem dX4_longestSilence_29 : decode cX4_longestSilence 29 = .ok (.iadd, 1) := by decide +kernel
theorem dX4_longestSilence_30 : decode cX4_longestSilence 30 = .ok (.istore_n 3, 1) := by decide +kernel
theorem dX4_longestSilence_31 : decode cX4_longestSilence 31 = .ok (.iload_n 2, 1) := by decide +kernel
theorem dX4_longestSilence_32 : decode cX4_longestSilence 32 = .ok (.iload_n 3, 1) := by decide +kernel
theorem dX4_longestSilence_33 : decode cX4_longestSilence 33 = .ok (.invokestatic 229, 3) := by decide +kernel
theorem dX4_longestSilence_36 : decode cX4_longestSilence 36 = .ok (.istore_n 2, 1) := by decide +kernel
theorem dX4_longestSilence_37 : decode cX4_longestSilence 37 = .ok (.iinc 4 1, 3) := by decide +kernel
theorem dX4_longestSilence_40 : decode cX4_longestSilence 40 = .ok (.goto (-33), 3) := by decide +kernel
theorem dX4_longestSilence_43 : decode cX4_longestSilence 43 = .ok (.iload_n 2, 1) := by decide +kernel
theorem dX4_longestSilence_44 : decode cX4_longestSilence 44 = .ok (.ireturn, 1) := by decide +kernel
set_option maxRecDepth 20000 in
theorem ggX4_keep_X4_within : GoodIn wsX4_keep wsX4_within := goodIn_r _ [6] (by decide +kernel) (by decide +kernel)
set_option maxRecDepth 20000 in
theorem gX4_keep_X4_within : GoodIn wsX4_keep (va_wsS RX4 61 yX4_within wsX4_within) := goodIn_app (goodIn_of _ (by decide +kernel)) ggX4_keep_X4_within
set_option maxRecDepth 20000 in
theorem ggX4_keep_X3_state : GoodIn wsX4_keep wsX3_state := goodIn_r _ [11, 12, 13, 14, 30, 31, 32, 33, 34] (by decide +kernel) (by decide +kernel)
set_option maxRecDepth 20000 in
theorem gX4_keep_X3_state : GoodIn wsX4_keep (wsV RX4 164 RX3 yX3_state wsX3_state) := goodIn_app (goodIn_of _ (by decide +kernel)) ggX4_keep_X3_state
set_option maxRecDepth 20000 in
theorem ggX4_keep_X3_place : GoodIn wsX4_keep wsX3_place := goodIn_r _ [18, 12, 30, 31, 32, 33, 34] (by decide +kernel) (by decide +kernel)
set_option maxRecDepth 20000 in
theorem gX4_keep_X3_place : GoodIn wsX4_keep (wsV RX4 98 RX3 yX3_place wsX3_place) := goodIn_app (goodIn_of _ (by decide +kernel)) ggX4_keep_X3_place
theorem dX4_keep_0 : decode cX4_keep 0 = .ok (.iload_n 1, 1) := by decide +kernel
theorem dX4_keep_1 : decode cX4_keep 1 = .ok (.iconst 0, 1) := by decide +kernel
theorem dX4_keep_2 : decode cX4_keep 2 = .ok (.aload_n 0, 1) := by decide +kernel
theorem dX4_keep_3 : decode cX4_keep 3 = .ok (.getfield 45, 3) := by decide +kernel
theorem dX4_keep_6 : decode cX4_keep 6 = .ok (.arraylength, 1) := by decide +kernel
theorem dX4_keep_7 : decode cX4_keep 7 = .ok (.iconst 1, 1) := by decide +kernel
theorem dX4_keep_8 : decode cX4_keep 8 = .ok (.isub, 1) := by decide +kernel
theorem dX4_keep_9 : decode cX4_keep 9 = .ok (.invokestatic 61, 3) := by decide +kernel
theorem dX4_keep_12 : decode cX4_keep 12 = .ok (.ifCond .ne 5, 3) := by decide +kernel
theorem dX4_keep_15 : decode cX4_keep 15 = .ok (.iconst (-1), 1) := by decide +kernel
theorem dX4_keep_16 : decode cX4_keep 16 = .ok (.ireturn, 1) := by decide +kernel
theorem dX4_keep_17 : decode cX4_keep 17 = .ok (.aload_n 0, 1) := by decide +kernel
theorem dX4_keep_18 : decode cX4_keep 18 = .ok (.getfield 45, 3) := by decide +kernel
theorem dX4_keep_21 : decode cX4_keep 21 = .ok (.iload_n 1, 1) := by decide +kernel
theorem dX4_keep_22 : decode cX4_keep 22 = .ok (.aload_n 0, 1) := by decide +kernel
theorem dX4_keep_23 : decode cX4_keep 23 = .ok (.getfield 28, 3) := by decide +kernel
theorem dX4_keep_26 : decode cX4_keep 26 = .ok (.invokevirtual 164, 3) := by decide +kernel
theorem dX4_keep_29 : decode cX4_keep 29 = .ok (.lastore, 1) := by decide +kernel
theorem dX4_keep_30 : decode cX4_keep 30 = .ok (.aload_n 0, 1) := by decide +kernel
theorem dX4_keep_31 : decode cX4_keep 31 = .ok (.getfield 28, 3) := by decide +kernel
theorem dX4_keep_34 : decode cX4_keep 34 = .ok (.invokevirtual 98, 3) := by decide +kernel
theorem dX4_keep_37 : decode cX4_keep 37 = .ok (.ireturn, 1) := by decide +kernel
set_option maxRecDepth 20000 in
theorem ggX4_again_X4_within : GoodIn wsX4_again wsX4_within := goodIn_r _ [8] (by decide +kernel) (by decide +kernel)
set_option maxRecDepth 20000 in
theorem gX4_again_X4_within : GoodIn wsX4_again (va_wsS RX4 61 yX4_within wsX4_within) := goodIn_app (goodIn_of _ (by decide +kernel)) ggX4_again_X4_within
set_option maxRecDepth 20000 in
theorem ggX4_again_X3_become : GoodIn wsX4_again wsX3_become := goodIn_r _ [13, 14, 15, 16, 17, 33, 34, 35, 36, 37] (by decide +kernel) (by decide +kernel)
set_option maxRecDepth 20000 in
theorem gX4_again_X3_become : GoodIn wsX4_again (wsV RX4 154 RX3 yX3_become wsX3_become) := goodIn_app (goodIn_of _ (by decide +kernel)) ggX4_again_X3_become
set_option maxRecDepth 20000 in
theorem ggX4_again_X3_place : GoodIn wsX4_again wsX3_place := goodIn_r _ [21, 17, 33, 34, 35, 36, 37] (by decide +kernel) (by decide +kernel)
set_option maxRecDepth 20000 in
theorem gX4_again_X3_place : GoodIn wsX4_again (wsV RX4 98 RX3 yX3_place wsX3_place) := goodIn_app (goodIn_of _ (by decide +kernel)) ggX4_again_X3_place
theorem dX4_again_0 : decode cX4_again 0 = .ok (.iload_n 1, 1) := by decide +kernel
theorem dX4_again_1 : decode cX4_again 1 = .ok (.iconst 0, 1) := by decide +kernel
theorem dX4_again_2 : decode cX4_again 2 = .ok (.aload_n 0, 1) := by decide +kernel
theorem dX4_again_3 : decode cX4_again 3 = .ok (.getfield 45, 3) := by decide +kernel
theorem dX4_again_6 : decode cX4_again 6 = .ok (.arraylength, 1) := by decide +kernel
theorem dX4_again_7 : decode cX4_again 7 = .ok (.iconst 1, 1) := by decide +kernel
theorem dX4_again_8 : decode cX4_again 8 = .ok (.isub, 1) := by decide +kernel
theorem dX4_again_9 : decode cX4_again 9 = .ok (.invokestatic 61, 3) := by decide +kernel
theorem dX4_again_12 : decode cX4_again 12 = .ok (.ifCond .ne 5, 3) := by decide +kernel
theorem dX4_again_15 : decode cX4_again 15 = .ok (.iconst (-1), 1) := by decide +kernel
theorem dX4_again_16 : decode cX4_again 16 = .ok (.ireturn, 1) := by decide +kernel
theorem dX4_again_17 : decode cX4_again 17 = .ok (.aload_n 0, 1) := by decide +kernel
theorem dX4_again_18 : decode cX4_again 18 = .ok (.getfield 45, 3) := by decide +kernel
theorem dX4_again_21 : decode cX4_again 21 = .ok (.iload_n 1, 1) := by decide +kernel
theorem dX4_again_22 : decode cX4_again 22 = .ok (.laload, 1) := by decide +kernel
theorem dX4_again_23 : decode cX4_again 23 = .ok (.ldc2_w 43, 3) := by decide +kernel
theorem dX4_again_26 : decode cX4_again 26 = .ok (.lcmp, 1) := by decide +kernel
theorem dX4_again_27 : decode cX4_again 27 = .ok (.ifCond .ne 6, 3) := by decide +kernel
theorem dX4_again_30 : decode cX4_again 30 = .ok (.bipush (-3), 2) := by decide +kernel
theorem dX4_again_32 : decode cX4_again 32 = .ok (.ireturn, 1) := by decide +kernel
theorem dX4_again_33 : decode cX4_again 33 = .ok (.aload_n 0, 1) := by decide +kernel
theorem dX4_again_34 : decode cX4_again 34 = .ok (.getfield 28, 3) := by decide +kernel
theorem dX4_again_37 : decode cX4_again 37 = .ok (.aload_n 0, 1) := by decide +kernel
theorem dX4_again_38 : decode cX4_again 38 = .ok (.getfield 45, 3) := by decide +kernel
theorem dX4_again_41 : decode cX4_again 41 = .ok (.iload_n 1, 1) := by decide +kernel
theorem dX4_again_42 : decode cX4_again 42 = .ok (.laload, 1) := by decide +kernel
theorem dX4_again_43 : decode cX4_again 43 = .ok (.invokevirtual 154, 3) := by decide +kernel
theorem dX4_again_46 : decode cX4_again 46 = .ok (.aload_n 0, 1) := by decide +kernel
theorem dX4_again_47 : decode cX4_again 47 = .ok (.iconst 0, 1) := by decide +kernel
theorem dX4_again_48 : decode cX4_again 48 = .ok (.putfield 39, 3) := by decide +kernel
theorem dX4_again_51 : decode cX4_again 51 = .ok (.aload_n 0, 1) := by decide +kernel
theorem dX4_again_52 : decode cX4_again 52 = .ok (.getfield 28, 3) := by decide +kernel
theorem dX4_again_55 : decode cX4_again 55 = .ok (.invokevirtual 98, 3) := by decide +kernel
theorem dX4_again_58 : decode cX4_again 58 = .ok (.ireturn, 1) := by decide +kernel
theorem dX4_forgetKept_0 : decode cX4_forgetKept 0 = .ok (.iconst 0, 1) := by decide +kernel
theorem dX4_forgetKept_1 : decode cX4_forgetKept 1 = .ok (.istore_n 1, 1) := by decide +kernel
theorem dX4_forgetKept_2 : decode cX4_forgetKept 2 = .ok (.iload_n 1, 1) := by decide +kernel
theorem dX4_forgetKept_3 : decode cX4_forgetKept 3 = .ok (.aload_n 0, 1) := by decide +kernel
theorem dX4_forgetKept_4 : decode cX4_forgetKept 4 = .ok (.getfield 45, 3) := by decide +kernel
theorem dX4_forgetKept_7 : decode cX4_forgetKept 7 = .ok (.arraylength, 1) := by decide +kernel
theorem dX4_forgetKept_8 : decode cX4_forgetKept 8 = .ok (.if_icmp .ge 18, 3) := by decide +kernel
theorem dX4_forgetKept_11 : decode cX4_forgetKept 11 = .ok (.aload_n 0, 1) := by decide +kernel
theorem dX4_forgetKept_12 : decode cX4_forgetKept 12 = .ok (.getfield 45, 3) := by decide +kernel
theorem dX4_forgetKept_15 : decode cX4_forgetKept 15 = .ok (.iload_n 1, 1) := by decide +kernel
theorem dX4_forgetKept_16 : decode cX4_forgetKept 16 = .ok (.ldc2_w 43, 3) := by decide +kernel
theorem dX4_forgetKept_19 : decode cX4_forgetKept 19 = .ok (.lastore, 1) := by decide +kernel
theorem dX4_forgetKept_20 : decode cX4_forgetKept 20 = .ok (.iinc 1 1, 3) := by decide +kernel
theorem dX4_forgetKept_23 : decode cX4_forgetKept 23 = .ok (.goto (-21), 3) := by decide +kernel
theorem dX4_forgetKept_26 : decode cX4_forgetKept 26 = .ok (.return_, 1) := by decide +kernel
theorem dX4_within_0 : decode cX4_within 0 = .ok (.iload_n 0, 1) := by decide +kernel
theorem dX4_within_1 : decode cX4_within 1 = .ok (.iload_n 1, 1) := by decide +kernel
theorem dX4_within_2 : decode cX4_within 2 = .ok (.if_icmp .lt 12, 3) := by decide +kernel
theorem dX4_within_5 : decode cX4_within 5 = .ok (.iload_n 0, 1) := by decide +kernel
theorem dX4_within_6 : decode cX4_within 6 = .ok (.iload_n 2, 1) := by decide +kernel
theorem dX4_within_7 : decode cX4_within 7 = .ok (.if_icmp .gt 7, 3) := by decide +kernel
theorem dX4_within_10 : decode cX4_within 10 = .ok (.iconst 1, 1) := by decide +kernel
theorem dX4_within_11 : decode cX4_within 11 = .ok (.goto 4, 3) := by decide +kernel
theorem dX4_within_14 : decode cX4_within 14 = .ok (.iconst 0, 1) := by decide +kernel
theorem dX4_within_15 : decode cX4_within 15 = .ok (.ireturn, 1) := by decide +kernel
set_option maxRecDepth 20000 in
theorem ggX4_isTenths_X4_within : GoodIn wsX4_isTenths wsX4_within := goodIn_r _ [4] (by decide +kernel) (by decide +kernel)
set_option maxRecDepth 20000 in
theorem gX4_isTenths_X4_within : GoodIn wsX4_isTenths (va_wsS RX4 61 yX4_within wsX4_within) := goodIn_app (goodIn_of _ (by decide +kernel)) ggX4_isTenths_X4_within
theorem dX4_isTenths_0 : decode cX4_isTenths 0 = .ok (.iload_n 0, 1) := by decide +kernel
theorem dX4_isTenths_1 : decode cX4_isTenths 1 = .ok (.iconst 0, 1) := by decide +kernel
theorem dX4_isTenths_2 : decode cX4_isTenths 2 = .ok (.bipush 10, 2) := by decide +kernel
theorem dX4_isTenths_4 : decode cX4_isTenths 4 = .ok (.invokestatic 61, 3) := by decide +kernel
theorem dX4_isTenths_7 : decode cX4_isTenths 7 = .ok (.ireturn, 1) := by decide +kernel
theorem dX4_factorial_0 : decode cX4_factorial 0 = .ok (.iconst 1, 1) := by decide +kernel
theorem dX4_factorial_1 : decode cX4_factorial 1 = .ok (.istore_n 1, 1) := by decide +kernel
theorem dX4_factorial_2 : decode cX4_factorial 2 = .ok (.iconst 2, 1) := by decide +kernel
theorem dX4_factorial_3 : decode cX4_factorial 3 = .ok (.istore_n 2, 1) := by decide +kernel
theorem dX4_factorial_4 : decode cX4_factorial 4 = .ok (.iload_n 2, 1) := by decide +kernel
theorem dX4_factorial_5 : decode cX4_factorial 5 = .ok (.iload_n 0, 1) := by decide +kernel
theorem dX4_factorial_6 : decode cX4_factorial 6 = .ok (.if_icmp .gt 13, 3) := by decide +kernel
theorem dX4_factorial_9 : decode cX4_factorial 9 = .ok (.iload_n 1, 1) := by decide +kernel
theorem dX4_factorial_10 : decode cX4_factorial 10 = .ok (.iload_n 2, 1) := by decide +kernel
theorem dX4_factorial_11 : decode cX4_factorial 11 = .ok (.imul, 1) := by decide +kernel
theorem dX4_factorial_12 : decode cX4_factorial 12 = .ok (.istore_n 1, 1) := by decide +kernel
theorem dX4_factorial_13 : decode cX4_factorial 13 = .ok (.iinc 2 1, 3) := by decide +kernel
theorem dX4_factorial_16 : decode cX4_factorial 16 = .ok (.goto (-12), 3) := by decide +kernel
theorem dX4_factorial_19 : decode cX4_factorial 19 = .ok (.iload_n 1, 1) := by decide +kernel
theorem dX4_factorial_20 : decode cX4_factorial 20 = .ok (.ireturn, 1) := by decide +kernel
theorem dX4_power_0 : decode cX4_power 0 = .ok (.lconst 1, 1) := by decide +kernel
theorem dX4_power_1 : decode cX4_power 1 = .ok (.lstore_n 2, 1) := by decide +kernel
theorem dX4_power_2 : decode cX4_power 2 = .ok (.iconst 0, 1) := by decide +kernel
theorem dX4_power_3 : decode cX4_power 3 = .ok (.istore 4, 2) := by decide +kernel
theorem dX4_power_5 : decode cX4_power 5 = .ok (.iload 4, 2) := by decide +kernel
theorem dX4_power_7 : decode cX4_power 7 = .ok (.iload_n 1, 1) := by decide +kernel
theorem dX4_power_8 : decode cX4_power 8 = .ok (.if_icmp .ge 14, 3) := by decide +kernel
theorem dX4_power_11 : decode cX4_power 11 = .ok (.lload_n 2, 1) := by decide +kernel
theorem dX4_power_12 : decode cX4_power 12 = .ok (.iload_n 0, 1) := by decide +kernel
theorem dX4_power_13 : decode cX4_power 13 = .ok (.i2l, 1) := by decide +kernel
theorem dX4_power_14 : decode cX4_power 14 = .ok (.lmul, 1) := by decide +kernel
theorem dX4_power_15 : decode cX4_power 15 = .ok (.lstore_n 2, 1) := by decide +kernel
theorem dX4_power_16 : decode cX4_power 16 = .ok (.iinc 4 1, 3) := by decide +kernel
theorem dX4_power_19 : decode cX4_power 19 = .ok (.goto (-14), 3) := by decide +kernel
theorem dX4_power_22 : decode cX4_power 22 = .ok (.lload_n 2, 1) := by decide +kernel
theorem dX4_power_23 : decode cX4_power 23 = .ok (.lreturn, 1) := by decide +kernel
set_option maxRecDepth 20000 in
theorem ggX4_fraction_X4_commonDivisor : GoodIn wsX4_fraction wsX4_commonDivisor := goodIn_r _ [8] (by decide +kernel) (by decide +kernel)
set_option maxRecDepth 20000 in
theorem gX4_fraction_X4_commonDivisor : GoodIn wsX4_fraction (va_wsS RX4 238 yX4_commonDivisor wsX4_commonDivisor) := goodIn_app (goodIn_of _ (by decide +kernel)) ggX4_fraction_X4_commonDivisor
theorem dX4_fraction_0 : decode cX4_fraction 0 = .ok (.lload_n 0, 1) := by decide +kernel
theorem dX4_fraction_1 : decode cX4_fraction 1 = .ok (.invokestatic 234, 3) := by decide +kernel
theorem dX4_fraction_4 : decode cX4_fraction 4 = .ok (.lload_n 2, 1) := by decide +kernel
theorem dX4_fraction_5 : decode cX4_fraction 5 = .ok (.invokestatic 238, 3) := by decide +kernel
theorem dX4_fraction_8 : decode cX4_fraction 8 = .ok (.lstore 5, 2) := by decide +kernel
theorem dX4_fraction_10 : decode cX4_fraction 10 = .ok (.lload 5, 2) := by decide +kernel
theorem dX4_fraction_12 : decode cX4_fraction 12 = .ok (.lconst 0, 1) := by decide +kernel
theorem dX4_fraction_13 : decode cX4_fraction 13 = .ok (.lcmp, 1) := by decide +kernel
theorem dX4_fraction_14 : decode cX4_fraction 14 = .ok (.ifCond .ne 5, 3) := by decide +kernel
theorem dX4_fraction_17 : decode cX4_fraction 17 = .ok (.iconst 0, 1) := by decide +kernel
theorem dX4_fraction_18 : decode cX4_fraction 18 = .ok (.ireturn, 1) := by decide +kernel
theorem dX4_fraction_19 : decode cX4_fraction 19 = .ok (.iload 4, 2) := by decide +kernel
theorem dX4_fraction_21 : decode cX4_fraction 21 = .ok (.ifCond .eq 7, 3) := by decide +kernel
theorem dX4_fraction_24 : decode cX4_fraction 24 = .ok (.lload_n 0, 1) := by decide +kernel
theorem dX4_fraction_25 : decode cX4_fraction 25 = .ok (.goto 4, 3) := by decide +kernel
theorem dX4_fraction_28 : decode cX4_fraction 28 = .ok (.lload_n 2, 1) := by decide +kernel
theorem dX4_fraction_29 : decode cX4_fraction 29 = .ok (.lload 5, 2) := by decide +kernel
theorem dX4_fraction_31 : decode cX4_fraction 31 = .ok (.ldiv, 1) := by decide +kernel
theorem dX4_fraction_32 : decode cX4_fraction 32 = .ok (.l2i, 1) := by decide +kernel
theorem dX4_fraction_33 : decode cX4_fraction 33 = .ok (.ireturn, 1) := by decide +kernel
theorem dX4_commonDivisor_0 : decode cX4_commonDivisor 0 = .ok (.lload_n 0, 1) := by decide +kernel
theorem dX4_commonDivisor_1 : decode cX4_commonDivisor 1 = .ok (.lstore 4, 2) := by decide +kernel
theorem dX4_commonDivisor_3 : decode cX4_commonDivisor 3 = .ok (.lload_n 2, 1) := by decide +kernel
theorem dX4_commonDivisor_4 : decode cX4_commonDivisor 4 = .ok (.lstore 6, 2) := by decide +kernel
theorem dX4_commonDivisor_6 : decode cX4_commonDivisor 6 = .ok (.iconst 0, 1) := by decide +kernel
theorem dX4_commonDivisor_7 : decode cX4_commonDivisor 7 = .ok (.istore 8, 2) := by decide +kernel
theorem dX4_commonDivisor_9 : decode cX4_commonDivisor 9 = .ok (.iload 8, 2) := by decide +kernel
theorem dX4_commonDivisor_11 : decode cX4_commonDivisor 11 = .ok (.bipush 100, 2) := by decide +kernel
theorem dX4_commonDivisor_13 : decode cX4_commonDivisor 13 = .ok (.if_icmp .ge 31, 3) := by decide +kernel
theorem dX4_commonDivisor_16 : decode cX4_commonDivisor 16 = .ok (.lload 6, 2) := by decide +kernel
theorem dX4_commonDivisor_18 : decode cX4_commonDivisor 18 = .ok (.lconst 0, 1) := by decide +kernel
theorem dX4_commonDivisor_19 : decode cX4_commonDivisor 19 = .ok (.lcmp, 1) := by decide +kernel
theorem dX4_commonDivisor_20 : decode cX4_commonDivisor 20 = .ok (.ifCond .eq 24, 3) := by decide +kernel
theorem dX4_commonDivisor_23 : decode cX4_commonDivisor 23 = .ok (.lload 4, 2) := by decide +kernel
theorem dX4_commonDivisor_25 : decode cX4_commonDivisor 25 = .ok (.lload 6, 2) := by decide +kernel
theorem dX4_commonDivisor_27 : decode cX4_commonDivisor 27 = .ok (.lrem, 1) := by decide +kernel
theorem dX4_commonDivisor_28 : decode cX4_commonDivisor 28 = .ok (.lstore 9, 2) := by decide +kernel
theorem dX4_commonDivisor_30 : decode cX4_commonDivisor 30 = .ok (.lload 6, 2) := by decide +kernel
theorem dX4_commonDivisor_32 : decode cX4_commonDivisor 32 = .ok (.lstore 4, 2) := by decide +kernel
theorem dX4_commonDivisor_34 : decode cX4_commonDivisor 34 = .ok (.lload 9, 2) := by decide +kernel
theorem dX4_commonDivisor_36 : decode cX4_commonDivisor 36 = .ok (.lstore 6, 2) := by decide +kernel
theorem dX4_commonDivisor_38 : decode cX4_commonDivisor 38 = .ok (.iinc 8 1, 3) := by decide +kernel
theorem dX4_commonDivisor_41 : decode cX4_commonDivisor 41 = .ok (.goto (-32), 3) := by decide +kernel
theorem dX4_commonDivisor_44 : decode cX4_commonDivisor 44 = .ok (.lload 4, 2) := by decide +kernel
theorem dX4_commonDivisor_46 : decode cX4_commonDivisor 46 = .ok (.lreturn, 1) := by decide +kernel
end
section
theorem dX5_init_0 : decode cX5_init 0 = .ok (.aload_n 0, 1) := by decide +kernel
theorem dX5_init_1 : decode cX5_init 1 = .ok (.invokespecial 1, 3) := by decide +kernel
theorem dX5_init_4 : decode cX5_init 4 = .ok (.aload_n 0, 1) := by decide +kernel
theorem dX5_init_5 : decode cX5_init 5 = .ok (.bipush 32, 2) := by decide +kernel
theorem dX5_init_7 : decode cX5_init 7 = .ok (.newarray .int, 2) := by decide +kernel
theorem dX5_init_9 : decode cX5_init 9 = .ok (.putfield 7, 3) := by decide +kernel
theorem dX5_init_12 : decode cX5_init 12 = .ok (.aload_n 0, 1) := by decide +kernel
theorem dX5_init_13 : decode cX5_init 13 = .ok (.iconst 1, 1) := by decide +kernel
theorem dX5_init_14 : decode cX5_init 14 = .ok (.putfield 13, 3) := by decide +kernel
theorem dX5_init_17 : decode cX5_init 17 = .ok (.aload_n 0, 1) := by decide +kernel
theorem dX5_init_18 : decode cX5_init 18 = .ok (.bipush 9, 2) := by decide +kernel
theorem dX5_init_20 : decode cX5_init 20 = .ok (.putfield 17, 3) := by decide +kernel
theorem dX5_init_23 : decode cX5_init 23 = .ok (.aload_n 0, 1) := by decide +kernel
theorem dX5_init_24 : decode cX5_init 24 = .ok (.iconst 5, 1) := by decide +kernel
theorem dX5_init_25 : decode cX5_init 25 = .ok (.newarray .int, 2) := by decide +kernel
theorem dX5_init_27 : decode cX5_init 27 = .ok (.putfield 20, 3) := by decide +kernel
theorem dX5_init_30 : decode cX5_init 30 = .ok (.aload_n 0, 1) := by decide +kernel
theorem dX5_init_31 : decode cX5_init 31 = .ok (.iconst 5, 1) := by decide +kernel
theorem dX5_init_32 : decode cX5_init 32 = .ok (.newarray .int, 2) := by decide +kernel
theorem dX5_init_34 : decode cX5_init 34 = .ok (.putfield 23, 3) := by decide +kernel
theorem dX5_init_37 : decode cX5_init 37 = .ok (.aload_n 0, 1) := by decide +kernel
theorem dX5_init_38 : decode cX5_init 38 = .ok (.iconst 5, 1) := by decide +kernel
theorem dX5_init_39 : decode cX5_init 39 = .ok (.newarray .int, 2) := by decide +kernel
theorem dX5_init_41 : decode cX5_init 41 = .ok (.putfield 26, 3) := by decide +kernel
theorem dX5_init_44 : decode cX5_init 44 = .ok (.aload_n 0, 1) := by decide +kernel
theorem dX5_init_45 : decode cX5_init 45 = .ok (.iconst 5, 1) := by decide +kernel
theorem dX5_init_46 : decode cX5_init 46 = .ok (.newarray .int, 2) := by decide +kernel
theorem dX5_init_48 : decode cX5_init 48 = .ok (.putfield 29, 3) := by decide +kernel
theorem dX5_init_51 : decode cX5_init 51 = .ok (.aload_n 0, 1) := by decide +kernel
theorem dX5_init_52 : decode cX5_init 52 = .ok (.bipush 13, 2) := by decide +kernel
theorem dX5_init_54 : decode cX5_init 54 = .ok (.newarray .int, 2) := by decide +kernel
theorem dX5_init_56 : decode cX5_init 56 = .ok (.putfield 32, 3) := by decide +kernel
theorem dX5_init_59 : decode cX5_init 59 = .ok (.aload_n 0, 1) := by decide +kernel
theorem dX5_init_60 : decode cX5_init 60 = .ok (.bipush 13, 2) := by decide +kernel
theorem dX5_init_62 : decode cX5_init 62 = .ok (.newarray .int, 2) := by decide +kernel
theorem dX5_init_64 : decode cX5_init 64 = .ok (.putfield 35, 3) := by decide +kernel
theorem dX5_init_67 : decode cX5_init 67 = .ok (.aload_n 0, 1) := by decide +kernel
theorem dX5_init_68 : decode cX5_init 68 = .ok (.sipush 182, 3) := by decide +kernel
theorem dX5_init_71 : decode cX5_init 71 = .ok (.newarray .int, 2) := by decide +kernel
theorem dX5_init_73 : decode cX5_init 73 = .ok (.putfield 38, 3) := by decide +kernel
theorem dX5_init_76 : decode cX5_init 76 = .ok (.aload_n 0, 1) := by decide +kernel
theorem dX5_init_77 : decode cX5_init 77 = .ok (.bipush 26, 2) := by decide +kernel
theorem dX5_init_79 : decode cX5_init 79 = .ok (.newarray .int, 2) := by decide +kernel
theorem dX5_init_81 : decode cX5_init 81 = .ok (.putfield 41, 3) := by decide +kernel
theorem dX5_init_84 : decode cX5_init 84 = .ok (.aload_n 0, 1) := by decide +kernel
theorem dX5_init_85 : decode cX5_init 85 = .ok (.iconst 2, 1) := by decide +kernel
theorem dX5_init_86 : decode cX5_init 86 = .ok (.newarray .boolean, 2) := by decide +kernel
theorem dX5_init_88 : decode cX5_init 88 = .ok (.putfield 44, 3) := by decide +kernel
theorem dX5_init_91 : decode cX5_init 91 = .ok (.aload_n 0, 1) := by decide +kernel
theorem dX5_init_92 : decode cX5_init 92 = .ok (.bipush 6, 2) := by decide +kernel
theorem dX5_init_94 : decode cX5_init 94 = .ok (.newarray .int, 2) := by decide +kernel
theorem dX5_init_96 : decode cX5_init 96 = .ok (.putfield 48, 3) := by decide +kernel
theorem dX5_init_99 : decode cX5_init 99 = .ok (.aload_n 0, 1) := by decide +kernel
theorem dX5_init_100 : decode cX5_init 100 = .ok (.bipush 6, 2) := by decide +kernel
theorem dX5_init_102 : decode cX5_init 102 = .ok (.newarray .boolean, 2) := by decide +kernel
theorem dX5_init_104 : decode cX5_init 104 = .ok (.putfield 51, 3) := by decide +kernel
theorem dX5_init_107 : decode cX5_init 107 = .ok (.aload_n 0, 1) := by decide +kernel
theorem dX5_init_108 : decode cX5_init 108 = .ok (.bipush 32, 2) := by decide +kernel
theorem dX5_init_110 : decode cX5_init 110 = .ok (.newarray .int, 2) := by decide +kernel
theorem dX5_init_112 : decode cX5_init 112 = .ok (.putfield 54, 3) := by decide +kernel
theorem dX5_init_115 : decode cX5_init 115 = .ok (.return_, 1) := by decide +kernel
theorem dX5_in_0 : decode cX5_in 0 = .ok (.lload_n 0, 1) := by decide +kernel
theorem dX5_in_1 : decode cX5_in 1 = .ok (.lload_n 2, 1) := by decide +kernel
theorem dX5_in_2 : decode cX5_in 2 = .ok (.lcmp, 1) := by decide +kernel
theorem dX5_in_3 : decode cX5_in 3 = .ok (.ifCond .lt 14, 3) := by decide +kernel
theorem dX5_in_6 : decode cX5_in 6 = .ok (.lload_n 0, 1) := by decide +kernel
theorem dX5_in_7 : decode cX5_in 7 = .ok (.lload 4, 2) := by decide +kernel
theorem dX5_in_9 : decode cX5_in 9 = .ok (.lcmp, 1) := by decide +kernel
theorem dX5_in_10 : decode cX5_in 10 = .ok (.ifCond .gt 7, 3) := by decide +kernel
theorem dX5_in_13 : decode cX5_in 13 = .ok (.iconst 1, 1) := by decide +kernel
theorem dX5_in_14 : decode cX5_in 14 = .ok (.goto 4, 3) := by decide +kernel
theorem dX5_in_17 : decode cX5_in 17 = .ok (.iconst 0, 1) := by decide +kernel
theorem dX5_in_18 : decode cX5_in 18 = .ok (.ireturn, 1) := by decide +kernel
theorem dX5_has_0 : decode cX5_has 0 = .ok (.iload_n 0, 1) := by decide +kernel
theorem dX5_has_1 : decode cX5_has 1 = .ok (.iload_n 1, 1) := by decide +kernel
theorem dX5_has_2 : decode cX5_has 2 = .ok (.ishr, 1) := by decide +kernel
theorem dX5_has_3 : decode cX5_has 3 = .ok (.iconst 1, 1) := by decide +kernel
theorem dX5_has_4 : decode cX5_has 4 = .ok (.iand, 1) := by decide +kernel
theorem dX5_has_5 : decode cX5_has 5 = .ok (.iconst 1, 1) := by decide +kernel
theorem dX5_has_6 : decode cX5_has 6 = .ok (.if_icmp .ne 7, 3) := by decide +kernel
theorem dX5_has_9 : decode cX5_has 9 = .ok (.iconst 1, 1) := by decide +kernel
theorem dX5_has_10 : decode cX5_has 10 = .ok (.goto 4, 3) := by decide +kernel
theorem dX5_has_13 : decode cX5_has 13 = .ok (.iconst 0, 1) := by decide +kernel
theorem dX5_has_14 : decode cX5_has 14 = .ok (.ireturn, 1) := by decide +kernel
theorem dX5_many_0 : decode cX5_many 0 = .ok (.iconst 0, 1) := by decide +kernel
theorem dX5_many_1 : decode cX5_many 1 = .ok (.istore_n 1, 1) := by decide +kernel
theorem dX5_many_2 : decode cX5_many 2 = .ok (.iconst 0, 1) := by decide +kernel
theorem dX5_many_3 : decode cX5_many 3 = .ok (.istore_n 2, 1) := by decide +kernel
theorem dX5_many_4 : decode cX5_many 4 = .ok (.iload_n 2, 1) := by decide +kernel
theorem dX5_many_5 : decode cX5_many 5 = .ok (.iconst 5, 1) := by decide +kernel
theorem dX5_many_6 : decode cX5_many 6 = .ok (.if_icmp .ge 17, 3) := by decide +kernel
theorem dX5_many_9 : decode cX5_many 9 = .ok (.iload_n 1, 1) := by decide +kernel
theorem dX5_many_10 : decode cX5_many 10 = .ok (.iload_n 0, 1) := by decide +kernel
theorem dX5_many_11 : decode cX5_many 11 = .ok (.iload_n 2, 1) := by decide +kernel
theorem dX5_many_12 : decode cX5_many 12 = .ok (.ishr, 1) := by decide +kernel
theorem dX5_many_13 : decode cX5_many 13 = .ok (.iconst 1, 1) := by decide +kernel
theorem dX5_many_14 : decode cX5_many 14 = .ok (.iand, 1) := by decide +kernel
theorem dX5_many_15 : decode cX5_many 15 = .ok (.iadd, 1) := by decide +kernel
theorem dX5_many_16 : decode cX5_many 16 = .ok (.istore_n 1, 1) := by decide +kernel
theorem dX5_many_17 : decode cX5_many 17 = .ok (.iinc 2 1, 3) := by decide +kernel
theorem dX5_many_20 : decode cX5_many 20 = .ok (.goto (-16), 3) := by decide +kernel
theorem dX5_many_23 : decode cX5_many 23 = .ok (.iload_n 1, 1) := by decide +kernel
theorem dX5_many_24 : decode cX5_many 24 = .ok (.ireturn, 1) := by decide +kernel
set_option maxRecDepth 20000 in
theorem ggX5_noOne_X5_in : GoodIn wsX5_noOne wsX5_in := goodIn_r _ [5] (by decide +kernel) (by decide +kernel)
set_option maxRecDepth 20000 in
theorem gX5_noOne_X5_in : GoodIn wsX5_noOne (va_wsS RX5 63 yX5_in wsX5_in) := goodIn_app (goodIn_of _ (by decide +kernel)) ggX5_noOne_X5_in
theorem dX5_noOne_0 : decode cX5_noOne 0 = .ok (.iload_n 1, 1) := by decide +kernel
theorem dX5_noOne_1 : decode cX5_noOne 1 = .ok (.i2l, 1) := by decide +kernel
theorem dX5_noOne_2 : decode cX5_noOne 2 = .ok (.lconst 0, 1) := by decide +kernel
theorem dX5_noOne_3 : decode cX5_noOne 3 = .ok (.aload_n 0, 1) := by decide +kernel
theorem dX5_noOne_4 : decode cX5_noOne 4 = .ok (.getfield 60, 3) := by decide +kernel
theorem dX5_noOne_7 : decode cX5_noOne 7 = .ok (.iconst 1, 1) := by decide +kernel
theorem dX5_noOne_8 : decode cX5_noOne 8 = .ok (.isub, 1) := by decide +kernel
theorem dX5_noOne_9 : decode cX5_noOne 9 = .ok (.i2l, 1) := by decide +kernel
theorem dX5_noOne_10 : decode cX5_noOne 10 = .ok (.invokestatic 63, 3) := by decide +kernel
theorem dX5_noOne_13 : decode cX5_noOne 13 = .ok (.ifCond .ne 7, 3) := by decide +kernel
theorem dX5_noOne_16 : decode cX5_noOne 16 = .ok (.iconst 1, 1) := by decide +kernel
theorem dX5_noOne_17 : decode cX5_noOne 17 = .ok (.goto 4, 3) := by decide +kernel
theorem dX5_noOne_20 : decode cX5_noOne 20 = .ok (.iconst 0, 1) := by decide +kernel
theorem dX5_noOne_21 : decode cX5_noOne 21 = .ok (.ireturn, 1) := by decide +kernel
set_option maxRecDepth 20000 in
theorem ggX5_write_X5_in : GoodIn wsX5_write wsX5_in := goodIn_r _ [8] (by decide +kernel) (by decide +kernel)
set_option maxRecDepth 20000 in
theorem gX5_write_X5_in : GoodIn wsX5_write (va_wsS RX5 63 yX5_in wsX5_in) := goodIn_app (goodIn_of _ (by decide +kernel)) ggX5_write_X5_in
theorem dX5_write_0 : decode cX5_write 0 = .ok (.aload_n 0, 1) := by decide +kernel
theorem dX5_write_1 : decode cX5_write 1 = .ok (.iconst 0, 1) := by decide +kernel
theorem dX5_write_2 : decode cX5_write 2 = .ok (.putfield 57, 3) := by decide +kernel
theorem dX5_write_5 : decode cX5_write 5 = .ok (.iload_n 1, 1) := by decide +kernel
theorem dX5_write_6 : decode cX5_write 6 = .ok (.i2l, 1) := by decide +kernel
theorem dX5_write_7 : decode cX5_write 7 = .ok (.lconst 0, 1) := by decide +kernel
theorem dX5_write_8 : decode cX5_write 8 = .ok (.ldc2_w 67, 3) := by decide +kernel
theorem dX5_write_11 : decode cX5_write 11 = .ok (.invokestatic 63, 3) := by decide +kernel
theorem dX5_write_14 : decode cX5_write 14 = .ok (.ifCond .ne 6, 3) := by decide +kernel
theorem dX5_write_17 : decode cX5_write 17 = .ok (.bipush (-2), 2) := by decide +kernel
theorem dX5_write_19 : decode cX5_write 19 = .ok (.ireturn, 1) := by decide +kernel
theorem dX5_write_20 : decode cX5_write 20 = .ok (.aload_n 0, 1) := by decide +kernel
theorem dX5_write_21 : decode cX5_write 21 = .ok (.getfield 69, 3) := by decide +kernel
theorem dX5_write_24 : decode cX5_write 24 = .ok (.bipush 32, 2) := by decide +kernel
theorem dX5_write_26 : decode cX5_write 26 = .ok (.if_icmp .ne 6, 3) := by decide +kernel
theorem dX5_write_29 : decode cX5_write 29 = .ok (.bipush (-4), 2) := by decide +kernel
theorem dX5_write_31 : decode cX5_write 31 = .ok (.ireturn, 1) := by decide +kernel
theorem dX5_write_32 : decode cX5_write 32 = .ok (.aload_n 0, 1) := by decide +kernel
theorem dX5_write_33 : decode cX5_write 33 = .ok (.getfield 7, 3) := by decide +kernel
theorem dX5_write_36 : decode cX5_write 36 = .ok (.aload_n 0, 1) := by decide +kernel
theorem dX5_write_37 : decode cX5_write 37 = .ok (.getfield 69, 3) := by decide +kernel
theorem dX5_write_40 : decode cX5_write 40 = .ok (.iload_n 1, 1) := by decide +kernel
theorem dX5_write_41 : decode cX5_write 41 = .ok (.iastore, 1) := by decide +kernel
theorem dX5_write_42 : decode cX5_write 42 = .ok (.aload_n 0, 1) := by decide +kernel
theorem dX5_write_43 : decode cX5_write 43 = .ok (.dup, 1) := by decide +kernel
theorem dX5_write_44 : decode cX5_write 44 = .ok (.getfield 69, 3) := by decide +kernel
theorem dX5_write_47 : decode cX5_write 47 = .ok (.iconst 1, 1) := by decide +kernel
theorem dX5_write_48 : decode cX5_write 48 = .ok (.iadd, 1) := by decide +kernel
theorem dX5_write_49 : decode cX5_write 49 = .ok (.putfield 69, 3) := by decide +kernel
theorem dX5_write_52 : decode cX5_write 52 = .ok (.aload_n 0, 1) := by decide +kernel
theorem dX5_write_53 : decode cX5_write 53 = .ok (.getfield 69, 3) := by decide +kernel
theorem dX5_write_56 : decode cX5_write 56 = .ok (.ireturn, 1) := by decide +kernel
theorem dX5_wipe_0 : decode cX5_wipe 0 = .ok (.aload_n 0, 1) := by decide +kernel
theorem dX5_wipe_1 : decode cX5_wipe 1 = .ok (.iconst 0, 1) := by decide +kernel
theorem dX5_wipe_2 : decode cX5_wipe 2 = .ok (.putfield 57, 3) := by decide +kernel
theorem dX5_wipe_5 : decode cX5_wipe 5 = .ok (.aload_n 0, 1) := by decide +kernel
theorem dX5_wipe_6 : decode cX5_wipe 6 = .ok (.getfield 69, 3) := by decide +kernel
theorem dX5_wipe_9 : decode cX5_wipe 9 = .ok (.istore_n 1, 1) := by decide +kernel
theorem dX5_wipe_10 : decode cX5_wipe 10 = .ok (.aload_n 0, 1) := by decide +kernel
theorem dX5_wipe_11 : decode cX5_wipe 11 = .ok (.iconst 0, 1) := by decide +kernel
theorem dX5_wipe_12 : decode cX5_wipe 12 = .ok (.putfield 69, 3) := by decide +kernel
theorem dX5_wipe_15 : decode cX5_wipe 15 = .ok (.iload_n 1, 1) := by decide +kernel
theorem dX5_wipe_16 : decode cX5_wipe 16 = .ok (.ireturn, 1) := by decide +kernel
set_option maxRecDepth 20000 in
theorem ggX5_figure_X5_in : GoodIn wsX5_figure wsX5_in := goodIn_r _ [7] (by decide +kernel) (by decide +kernel)
set_option maxRecDepth 20000 in
theorem gX5_figure_X5_in : GoodIn wsX5_figure (va_wsS RX5 63 yX5_in wsX5_in) := goodIn_app (goodIn_of _ (by decide +kernel)) ggX5_figure_X5_in
theorem dX5_figure_0 : decode cX5_figure 0 = .ok (.aload_n 0, 1) := by decide +kernel
theorem dX5_figure_1 : decode cX5_figure 1 = .ok (.getfield 72, 3) := by decide +kernel
theorem dX5_figure_4 : decode cX5_figure 4 = .ok (.aload_n 0, 1) := by decide +kernel
theorem dX5_figure_5 : decode cX5_figure 5 = .ok (.getfield 69, 3) := by decide +kernel
theorem dX5_figure_8 : decode cX5_figure 8 = .ok (.if_icmp .eq 26, 3) := by decide +kernel
theorem dX5_figure_11 : decode cX5_figure 11 = .ok (.aload_n 0, 1) := by decide +kernel
theorem dX5_figure_12 : decode cX5_figure 12 = .ok (.getfield 7, 3) := by decide +kernel
theorem dX5_figure_15 : decode cX5_figure 15 = .ok (.aload_n 0, 1) := by decide +kernel
theorem dX5_figure_16 : decode cX5_figure 16 = .ok (.getfield 72, 3) := by decide +kernel
theorem dX5_figure_19 : decode cX5_figure 19 = .ok (.iaload, 1) := by decide +kernel
theorem dX5_figure_20 : decode cX5_figure 20 = .ok (.bipush 48, 2) := by decide +kernel
theorem dX5_figure_22 : decode cX5_figure 22 = .ok (.isub, 1) := by decide +kernel
theorem dX5_figure_23 : decode cX5_figure 23 = .ok (.i2l, 1) := by decide +kernel
theorem dX5_figure_24 : decode cX5_figure 24 = .ok (.iload_n 1, 1) := by decide +kernel
theorem dX5_figure_25 : decode cX5_figure 25 = .ok (.i2l, 1) := by decide +kernel
theorem dX5_figure_26 : decode cX5_figure 26 = .ok (.iload_n 2, 1) := by decide +kernel
theorem dX5_figure_27 : decode cX5_figure 27 = .ok (.i2l, 1) := by decide +kernel
theorem dX5_figure_28 : decode cX5_figure 28 = .ok (.invokestatic 63, 3) := by decide +kernel
theorem dX5_figure_31 : decode cX5_figure 31 = .ok (.ifCond .ne 6, 3) := by decide +kernel
theorem dX5_figure_34 : decode cX5_figure 34 = .ok (.bipush (-9), 2) := by decide +kernel
theorem dX5_figure_36 : decode cX5_figure 36 = .ok (.ireturn, 1) := by decide +kernel
theorem dX5_figure_37 : decode cX5_figure 37 = .ok (.aload_n 0, 1) := by decide +kernel
theorem dX5_figure_38 : decode cX5_figure 38 = .ok (.dup, 1) := by decide +kernel
theorem dX5_figure_39 : decode cX5_figure 39 = .ok (.getfield 72, 3) := by decide +kernel
theorem dX5_figure_42 : decode cX5_figure 42 = .ok (.iconst 1, 1) := by decide +kernel
theorem dX5_figure_43 : decode cX5_figure 43 = .ok (.iadd, 1) := by decide +kernel
theorem dX5_figure_44 : decode cX5_figure 44 = .ok (.putfield 72, 3) := by decide +kernel
theorem dX5_figure_47 : decode cX5_figure 47 = .ok (.aload_n 0, 1) := by decide +kernel
theorem dX5_figure_48 : decode cX5_figure 48 = .ok (.getfield 7, 3) := by decide +kernel
theorem dX5_figure_51 : decode cX5_figure 51 = .ok (.aload_n 0, 1) := by decide +kernel
theorem dX5_figure_52 : decode cX5_figure 52 = .ok (.getfield 72, 3) := by decide +kernel
theorem dX5_figure_55 : decode cX5_figure 55 = .ok (.iconst 1, 1) := by decide +kernel
theorem dX5_figure_56 : decode cX5_figure 56 = .ok (.isub, 1) := by decide +kernel
theorem dX5_figure_57 : decode cX5_figure 57 = .ok (.iaload, 1) := by decide +kernel
theorem dX5_figure_58 : decode cX5_figure 58 = .ok (.bipush 48, 2) := by decide +kernel
theorem dX5_figure_60 : decode cX5_figure 60 = .ok (.isub, 1) := by decide +kernel
theorem dX5_figure_61 : decode cX5_figure 61 = .ok (.ireturn, 1) := by decide +kernel
set_option maxRecDepth 20000 in
theorem ggX5_readGorge_X5_figure : GoodIn wsX5_readGorge wsX5_figure := goodIn_r _ [13, 1, 3, 4, 14, 15, 12, 16, 17, 18, 19, 20, 21, 22, 23, 24, 25, 26, 27, 28, 29, 30, 31, 32, 33, 34, 35, 36, 37, 38, 39, 40, 41, 42, 43, 44] (by decide +kernel) (by decide +kernel)
set_option maxRecDepth 20000 in
theorem gX5_readGorge_X5_figure : GoodIn wsX5_readGorge (wsV RX5 78 RX5 yX5_figure wsX5_figure) := goodIn_app (goodIn_of _ (by decide +kernel)) ggX5_readGorge_X5_figure
theorem dX5_readGorge_0 : decode cX5_readGorge 0 = .ok (.aload_n 0, 1) := by decide +kernel
theorem dX5_readGorge_1 : decode cX5_readGorge 1 = .ok (.iconst 0, 1) := by decide +kernel
theorem dX5_readGorge_2 : decode cX5_readGorge 2 = .ok (.putfield 72, 3) := by decide +kernel
theorem dX5_readGorge_5 : decode cX5_readGorge 5 = .ok (.aload_n 0, 1) := by decide +kernel
theorem dX5_readGorge_6 : decode cX5_readGorge 6 = .ok (.iconst 0, 1) := by decide +kernel
theorem dX5_readGorge_7 : decode cX5_readGorge 7 = .ok (.putfield 75, 3) := by decide +kernel
theorem dX5_readGorge_10 : decode cX5_readGorge 10 = .ok (.aload_n 0, 1) := by decide +kernel
theorem dX5_readGorge_11 : decode cX5_readGorge 11 = .ok (.getfield 69, 3) := by decide +kernel
theorem dX5_readGorge_14 : decode cX5_readGorge 14 = .ok (.ifCond .eq 14, 3) := by decide +kernel
theorem dX5_readGorge_17 : decode cX5_readGorge 17 = .ok (.aload_n 0, 1) := by decide +kernel
theorem dX5_readGorge_18 : decode cX5_readGorge 18 = .ok (.getfield 7, 3) := by decide +kernel
theorem dX5_readGorge_21 : decode cX5_readGorge 21 = .ok (.iconst 0, 1) := by decide +kernel
theorem dX5_readGorge_22 : decode cX5_readGorge 22 = .ok (.iaload, 1) := by decide +kernel
theorem dX5_readGorge_23 : decode cX5_readGorge 23 = .ok (.bipush 71, 2) := by decide +kernel
theorem dX5_readGorge_25 : decode cX5_readGorge 25 = .ok (.if_icmp .eq 5, 3) := by decide +kernel
theorem dX5_readGorge_28 : decode cX5_readGorge 28 = .ok (.iconst 0, 1) := by decide +kernel
theorem dX5_readGorge_29 : decode cX5_readGorge 29 = .ok (.ireturn, 1) := by decide +kernel
theorem dX5_readGorge_30 : decode cX5_readGorge 30 = .ok (.aload_n 0, 1) := by decide +kernel
theorem dX5_readGorge_31 : decode cX5_readGorge 31 = .ok (.iconst 1, 1) := by decide +kernel
theorem dX5_readGorge_32 : decode cX5_readGorge 32 = .ok (.putfield 72, 3) := by decide +kernel
theorem dX5_readGorge_35 : decode cX5_readGorge 35 = .ok (.aload_n 0, 1) := by decide +kernel
theorem dX5_readGorge_36 : decode cX5_readGorge 36 = .ok (.aload_n 0, 1) := by decide +kernel
theorem dX5_readGorge_37 : decode cX5_readGorge 37 = .ok (.iconst 1, 1) := by decide +kernel
theorem dX5_readGorge_38 : decode cX5_readGorge 38 = .ok (.bipush 9, 2) := by decide +kernel
theorem dX5_readGorge_40 : decode cX5_readGorge 40 = .ok (.invokevirtual 78, 3) := by decide +kernel
theorem dX5_readGorge_43 : decode cX5_readGorge 43 = .ok (.putfield 82, 3) := by decide +kernel
theorem dX5_readGorge_46 : decode cX5_readGorge 46 = .ok (.aload_n 0, 1) := by decide +kernel
theorem dX5_readGorge_47 : decode cX5_readGorge 47 = .ok (.aload_n 0, 1) := by decide +kernel
theorem dX5_readGorge_48 : decode cX5_readGorge 48 = .ok (.getfield 82, 3) := by decide +kernel
theorem dX5_readGorge_51 : decode cX5_readGorge 51 = .ok (.bipush (-9), 2) := by decide +kernel
theorem dX5_readGorge_53 : decode cX5_readGorge 53 = .ok (.if_icmp .ne 8, 3) := by decide +kernel
theorem dX5_readGorge_56 : decode cX5_readGorge 56 = .ok (.bipush (-9), 2) := by decide +kernel
theorem dX5_readGorge_58 : decode cX5_readGorge 58 = .ok (.goto 10, 3) := by decide +kernel
theorem dX5_readGorge_61 : decode cX5_readGorge 61 = .ok (.aload_n 0, 1) := by decide +kernel
theorem dX5_readGorge_62 : decode cX5_readGorge 62 = .ok (.iconst 0, 1) := by decide +kernel
theorem dX5_readGorge_63 : decode cX5_readGorge 63 = .ok (.bipush 9, 2) := by decide +kernel
theorem dX5_readGorge_65 : decode cX5_readGorge 65 = .ok (.invokevirtual 78, 3) := by decide +kernel
theorem dX5_readGorge_68 : decode cX5_readGorge 68 = .ok (.putfield 85, 3) := by decide +kernel
theorem dX5_readGorge_71 : decode cX5_readGorge 71 = .ok (.aload_n 0, 1) := by decide +kernel
theorem dX5_readGorge_72 : decode cX5_readGorge 72 = .ok (.getfield 85, 3) := by decide +kernel
theorem dX5_readGorge_75 : decode cX5_readGorge 75 = .ok (.bipush (-9), 2) := by decide +kernel
theorem dX5_readGorge_77 : decode cX5_readGorge 77 = .ok (.if_icmp .ne 8, 3) := by decide +kernel
theorem dX5_readGorge_80 : decode cX5_readGorge 80 = .ok (.aload_n 0, 1) := by decide +kernel
theorem dX5_readGorge_81 : decode cX5_readGorge 81 = .ok (.getfield 72, 3) := by decide +kernel
theorem dX5_readGorge_84 : decode cX5_readGorge 84 = .ok (.ireturn, 1) := by decide +kernel
theorem dX5_readGorge_85 : decode cX5_readGorge 85 = .ok (.aload_n 0, 1) := by decide +kernel
theorem dX5_readGorge_86 : decode cX5_readGorge 86 = .ok (.getfield 72, 3) := by decide +kernel
theorem dX5_readGorge_89 : decode cX5_readGorge 89 = .ok (.aload_n 0, 1) := by decide +kernel
theorem dX5_readGorge_90 : decode cX5_readGorge 90 = .ok (.getfield 69, 3) := by decide +kernel
theorem dX5_readGorge_93 : decode cX5_readGorge 93 = .ok (.if_icmp .ge 109, 3) := by decide +kernel
theorem dX5_readGorge_96 : decode cX5_readGorge 96 = .ok (.aload_n 0, 1) := by decide +kernel
theorem dX5_readGorge_97 : decode cX5_readGorge 97 = .ok (.getfield 7, 3) := by decide +kernel
theorem dX5_readGorge_100 : decode cX5_readGorge 100 = .ok (.aload_n 0, 1) := by decide +kernel
theorem dX5_readGorge_101 : decode cX5_readGorge 101 = .ok (.getfield 72, 3) := by decide +kernel
theorem dX5_readGorge_104 : decode cX5_readGorge 104 = .ok (.iaload, 1) := by decide +kernel
theorem dX5_readGorge_105 : decode cX5_readGorge 105 = .ok (.bipush 87, 2) := by decide +kernel
theorem dX5_readGorge_107 : decode cX5_readGorge 107 = .ok (.if_icmp .ne 11, 3) := by decide +kernel
theorem dX5_readGorge_110 : decode cX5_readGorge 110 = .ok (.aload_n 0, 1) := by decide +kernel
theorem dX5_readGorge_111 : decode cX5_readGorge 111 = .ok (.getfield 75, 3) := by decide +kernel
theorem dX5_readGorge_114 : decode cX5_readGorge 114 = .ok (.iconst 5, 1) := by decide +kernel
theorem dX5_readGorge_115 : decode cX5_readGorge 115 = .ok (.if_icmp .ne 8, 3) := by decide +kernel
theorem dX5_readGorge_118 : decode cX5_readGorge 118 = .ok (.aload_n 0, 1) := by decide +kernel
theorem dX5_readGorge_119 : decode cX5_readGorge 119 = .ok (.getfield 72, 3) := by decide +kernel
theorem dX5_readGorge_122 : decode cX5_readGorge 122 = .ok (.ireturn, 1) := by decide +kernel
theorem dX5_readGorge_123 : decode cX5_readGorge 123 = .ok (.aload_n 0, 1) := by decide +kernel
theorem dX5_readGorge_124 : decode cX5_readGorge 124 = .ok (.dup, 1) := by decide +kernel
theorem dX5_readGorge_125 : decode cX5_readGorge 125 = .ok (.getfield 72, 3) := by decide +kernel
theorem dX5_readGorge_128 : decode cX5_readGorge 128 = .ok (.iconst 1, 1) := by decide +kernel
theorem dX5_readGorge_129 : decode cX5_readGorge 129 = .ok (.iadd, 1) := by decide +kernel
theorem dX5_readGorge_130 : decode cX5_readGorge 130 = .ok (.putfield 72, 3) := by decide +kernel
theorem dX5_readGorge_133 : decode cX5_readGorge 133 = .ok (.aload_n 0, 1) := by decide +kernel
theorem dX5_readGorge_134 : decode cX5_readGorge 134 = .ok (.iconst 0, 1) := by decide +kernel
theorem dX5_readGorge_135 : decode cX5_readGorge 135 = .ok (.iconst 5, 1) := by decide +kernel
theorem dX5_readGorge_136 : decode cX5_readGorge 136 = .ok (.invokevirtual 78, 3) := by decide +kernel
theorem dX5_readGorge_139 : decode cX5_readGorge 139 = .ok (.istore_n 1, 1) := by decide +kernel
theorem dX5_readGorge_140 : decode cX5_readGorge 140 = .ok (.iload_n 1, 1) := by decide +kernel
theorem dX5_readGorge_141 : decode cX5_readGorge 141 = .ok (.bipush (-9), 2) := by decide +kernel
theorem dX5_readGorge_143 : decode cX5_readGorge 143 = .ok (.if_icmp .ne 8, 3) := by decide +kernel
theorem dX5_readGorge_146 : decode cX5_readGorge 146 = .ok (.bipush (-9), 2) := by decide +kernel
theorem dX5_readGorge_148 : decode cX5_readGorge 148 = .ok (.goto 9, 3) := by decide +kernel
theorem dX5_readGorge_151 : decode cX5_readGorge 151 = .ok (.aload_n 0, 1) := by decide +kernel
theorem dX5_readGorge_152 : decode cX5_readGorge 152 = .ok (.iconst 0, 1) := by decide +kernel
theorem dX5_readGorge_153 : decode cX5_readGorge 153 = .ok (.iconst 3, 1) := by decide +kernel
theorem dX5_readGorge_154 : decode cX5_readGorge 154 = .ok (.invokevirtual 78, 3) := by decide +kernel
theorem dX5_readGorge_157 : decode cX5_readGorge 157 = .ok (.istore_n 2, 1) := by decide +kernel
theorem dX5_readGorge_158 : decode cX5_readGorge 158 = .ok (.iload_n 2, 1) := by decide +kernel
theorem dX5_readGorge_159 : decode cX5_readGorge 159 = .ok (.bipush (-9), 2) := by decide +kernel
theorem dX5_readGorge_161 : decode cX5_readGorge 161 = .ok (.if_icmp .ne 8, 3) := by decide +kernel
theorem dX5_readGorge_164 : decode cX5_readGorge 164 = .ok (.aload_n 0, 1) := by decide +kernel
theorem dX5_readGorge_165 : decode cX5_readGorge 165 = .ok (.getfield 72, 3) := by decide +kernel
theorem dX5_readGorge_168 : decode cX5_readGorge 168 = .ok (.ireturn, 1) := by decide +kernel
theorem dX5_readGorge_169 : decode cX5_readGorge 169 = .ok (.aload_n 0, 1) := by decide +kernel
theorem dX5_readGorge_170 : decode cX5_readGorge 170 = .ok (.getfield 26, 3) := by decide +kernel
theorem dX5_readGorge_173 : decode cX5_readGorge 173 = .ok (.aload_n 0, 1) := by decide +kernel
theorem dX5_readGorge_174 : decode cX5_readGorge 174 = .ok (.getfield 75, 3) := by decide +kernel
theorem dX5_readGorge_177 : decode cX5_readGorge 177 = .ok (.iload_n 1, 1) := by decide +kernel
theorem dX5_readGorge_178 : decode cX5_readGorge 178 = .ok (.iastore, 1) := by decide +kernel
theorem dX5_readGorge_179 : decode cX5_readGorge 179 = .ok (.aload_n 0, 1) := by decide +kernel
theorem dX5_readGorge_180 : decode cX5_readGorge 180 = .ok (.getfield 29, 3) := by decide +kernel
theorem dX5_readGorge_183 : decode cX5_readGorge 183 = .ok (.aload_n 0, 1) := by decide +kernel
theorem dX5_readGorge_184 : decode cX5_readGorge 184 = .ok (.getfield 75, 3) := by decide +kernel
theorem dX5_readGorge_187 : decode cX5_readGorge 187 = .ok (.iload_n 2, 1) := by decide +kernel
theorem dX5_readGorge_188 : decode cX5_readGorge 188 = .ok (.iastore, 1) := by decide +kernel
theorem dX5_readGorge_189 : decode cX5_readGorge 189 = .ok (.aload_n 0, 1) := by decide +kernel
theorem dX5_readGorge_190 : decode cX5_readGorge 190 = .ok (.dup, 1) := by decide +kernel
theorem dX5_readGorge_191 : decode cX5_readGorge 191 = .ok (.getfield 75, 3) := by decide +kernel
theorem dX5_readGorge_194 : decode cX5_readGorge 194 = .ok (.iconst 1, 1) := by decide +kernel
theorem dX5_readGorge_195 : decode cX5_readGorge 195 = .ok (.iadd, 1) := by decide +kernel
theorem dX5_readGorge_196 : decode cX5_readGorge 196 = .ok (.putfield 75, 3) := by decide +kernel
theorem dX5_readGorge_199 : decode cX5_readGorge 199 = .ok (.goto (-114), 3) := by decide +kernel
theorem dX5_readGorge_202 : decode cX5_readGorge 202 = .ok (.bipush (-9), 2) := by decide +kernel
theorem dX5_readGorge_204 : decode cX5_readGorge 204 = .ok (.ireturn, 1) := by decide +kernel
set_option maxRecDepth 20000 in
theorem ggX5_fault_X5_readGorge : GoodIn wsX5_fault wsX5_readGorge := goodIn_r _ [6, 7, 8, 9, 10, 11, 12, 13, 14, 15, 16, 17, 5, 18, 19, 20, 21, 22, 23, 24, 25, 26, 27, 28, 29, 30, 31, 32, 33, 34, 35, 36, 37, 38, 39, 40, 41, 42, 43, 44, 45, 46, 47, 48, 49] (by decide +kernel) (by decide +kernel)
set_option maxRecDepth 20000 in
theorem gX5_fault_X5_readGorge : GoodIn wsX5_fault (wsV RX5 88 RX5 yX5_readGorge wsX5_readGorge) := goodIn_app (goodIn_of _ (by decide +kernel)) ggX5_fault_X5_readGorge
theorem dX5_fault_0 : decode cX5_fault 0 = .ok (.aload_n 0, 1) := by decide +kernel
theorem dX5_fault_1 : decode cX5_fault 1 = .ok (.iconst 0, 1) := by decide +kernel
theorem dX5_fault_2 : decode cX5_fault 2 = .ok (.putfield 57, 3) := by decide +kernel
theorem dX5_fault_5 : decode cX5_fault 5 = .ok (.aload_n 0, 1) := by decide +kernel
theorem dX5_fault_6 : decode cX5_fault 6 = .ok (.invokevirtual 88, 3) := by decide +kernel
theorem dX5_fault_9 : decode cX5_fault 9 = .ok (.ireturn, 1) := by decide +kernel
set_option maxRecDepth 20000 in
theorem ggX5_gorge_X5_readGorge : GoodIn wsX5_gorge wsX5_readGorge := goodIn_r _ [19, 20, 2, 21, 22, 4, 6, 10, 12, 23, 24, 25, 18, 26, 27, 28, 29, 30, 31, 32, 33, 34, 35, 36, 37, 38, 39, 40, 41, 42, 43, 44, 45, 46, 47, 48, 49, 50, 51, 52, 53, 54, 55, 56, 57] (by decide +kernel) (by decide +kernel)
set_option maxRecDepth 20000 in
theorem gX5_gorge_X5_readGorge : GoodIn wsX5_gorge (wsV RX5 88 RX5 yX5_readGorge wsX5_readGorge) := goodIn_app (goodIn_of _ (by decide +kernel)) ggX5_gorge_X5_readGorge
theorem dX5_gorge_0 : decode cX5_gorge 0 = .ok (.aload_n 0, 1) := by decide +kernel
theorem dX5_gorge_1 : decode cX5_gorge 1 = .ok (.iconst 0, 1) := by decide +kernel
theorem dX5_gorge_2 : decode cX5_gorge 2 = .ok (.putfield 57, 3) := by decide +kernel
theorem dX5_gorge_5 : decode cX5_gorge 5 = .ok (.aload_n 0, 1) := by decide +kernel
theorem dX5_gorge_6 : decode cX5_gorge 6 = .ok (.invokevirtual 88, 3) := by decide +kernel
theorem dX5_gorge_9 : decode cX5_gorge 9 = .ok (.bipush (-9), 2) := by decide +kernel
theorem dX5_gorge_11 : decode cX5_gorge 11 = .ok (.if_icmp .eq 6, 3) := by decide +kernel
theorem dX5_gorge_14 : decode cX5_gorge 14 = .ok (.bipush (-3), 2) := by decide +kernel
theorem dX5_gorge_16 : decode cX5_gorge 16 = .ok (.ireturn, 1) := by decide +kernel
theorem dX5_gorge_17 : decode cX5_gorge 17 = .ok (.aload_n 0, 1) := by decide +kernel
theorem dX5_gorge_18 : decode cX5_gorge 18 = .ok (.aload_n 0, 1) := by decide +kernel
theorem dX5_gorge_19 : decode cX5_gorge 19 = .ok (.getfield 75, 3) := by decide +kernel
theorem dX5_gorge_22 : decode cX5_gorge 22 = .ok (.putfield 60, 3) := by decide +kernel
theorem dX5_gorge_25 : decode cX5_gorge 25 = .ok (.aload_n 0, 1) := by decide +kernel
theorem dX5_gorge_26 : decode cX5_gorge 26 = .ok (.aload_n 0, 1) := by decide +kernel
theorem dX5_gorge_27 : decode cX5_gorge 27 = .ok (.getfield 82, 3) := by decide +kernel
theorem dX5_gorge_30 : decode cX5_gorge 30 = .ok (.putfield 13, 3) := by decide +kernel
theorem dX5_gorge_33 : decode cX5_gorge 33 = .ok (.aload_n 0, 1) := by decide +kernel
theorem dX5_gorge_34 : decode cX5_gorge 34 = .ok (.aload_n 0, 1) := by decide +kernel
theorem dX5_gorge_35 : decode cX5_gorge 35 = .ok (.getfield 85, 3) := by decide +kernel
theorem dX5_gorge_38 : decode cX5_gorge 38 = .ok (.putfield 17, 3) := by decide +kernel
theorem dX5_gorge_41 : decode cX5_gorge 41 = .ok (.iconst 0, 1) := by decide +kernel
theorem dX5_gorge_42 : decode cX5_gorge 42 = .ok (.istore_n 1, 1) := by decide +kernel
theorem dX5_gorge_43 : decode cX5_gorge 43 = .ok (.iload_n 1, 1) := by decide +kernel
theorem dX5_gorge_44 : decode cX5_gorge 44 = .ok (.bipush 13, 2) := by decide +kernel
theorem dX5_gorge_46 : decode cX5_gorge 46 = .ok (.if_icmp .ge 16, 3) := by decide +kernel
theorem dX5_gorge_49 : decode cX5_gorge 49 = .ok (.aload_n 0, 1) := by decide +kernel
theorem dX5_gorge_50 : decode cX5_gorge 50 = .ok (.getfield 32, 3) := by decide +kernel
theorem dX5_gorge_53 : decode cX5_gorge 53 = .ok (.iload_n 1, 1) := by decide +kernel
theorem dX5_gorge_54 : decode cX5_gorge 54 = .ok (.iconst 0, 1) := by decide +kernel
theorem dX5_gorge_55 : decode cX5_gorge 55 = .ok (.iastore, 1) := by decide +kernel
theorem dX5_gorge_56 : decode cX5_gorge 56 = .ok (.iinc 1 1, 3) := by decide +kernel
theorem dX5_gorge_59 : decode cX5_gorge 59 = .ok (.goto (-16), 3) := by decide +kernel
theorem dX5_gorge_62 : decode cX5_gorge 62 = .ok (.iconst 0, 1) := by decide +kernel
theorem dX5_gorge_63 : decode cX5_gorge 63 = .ok (.istore_n 1, 1) := by decide +kernel
theorem dX5_gorge_64 : decode cX5_gorge 64 = .ok (.iload_n 1, 1) := by decide +kernel
theorem dX5_gorge_65 : decode cX5_gorge 65 = .ok (.aload_n 0, 1) := by decide +kernel
theorem dX5_gorge_66 : decode cX5_gorge 66 = .ok (.getfield 60, 3) := by decide +kernel
theorem dX5_gorge_69 : decode cX5_gorge 69 = .ok (.if_icmp .ge 40, 3) := by decide +kernel
theorem dX5_gorge_72 : decode cX5_gorge 72 = .ok (.aload_n 0, 1) := by decide +kernel
theorem dX5_gorge_73 : decode cX5_gorge 73 = .ok (.getfield 20, 3) := by decide +kernel
theorem dX5_gorge_76 : decode cX5_gorge 76 = .ok (.iload_n 1, 1) := by decide +kernel
theorem dX5_gorge_77 : decode cX5_gorge 77 = .ok (.aload_n 0, 1) := by decide +kernel
theorem dX5_gorge_78 : decode cX5_gorge 78 = .ok (.getfield 26, 3) := by decide +kernel
theorem dX5_gorge_81 : decode cX5_gorge 81 = .ok (.iload_n 1, 1) := by decide +kernel
theorem dX5_gorge_82 : decode cX5_gorge 82 = .ok (.iaload, 1) := by decide +kernel
theorem dX5_gorge_83 : decode cX5_gorge 83 = .ok (.iastore, 1) := by decide +kernel
theorem dX5_gorge_84 : decode cX5_gorge 84 = .ok (.aload_n 0, 1) := by decide +kernel
theorem dX5_gorge_85 : decode cX5_gorge 85 = .ok (.getfield 23, 3) := by decide +kernel
theorem dX5_gorge_88 : decode cX5_gorge 88 = .ok (.iload_n 1, 1) := by decide +kernel
theorem dX5_gorge_89 : decode cX5_gorge 89 = .ok (.aload_n 0, 1) := by decide +kernel
theorem dX5_gorge_90 : decode cX5_gorge 90 = .ok (.getfield 29, 3) := by decide +kernel
theorem dX5_gorge_93 : decode cX5_gorge 93 = .ok (.iload_n 1, 1) := by decide +kernel
theorem dX5_gorge_94 : decode cX5_gorge 94 = .ok (.iaload, 1) := by decide +kernel
theorem dX5_gorge_95 : decode cX5_gorge 95 = .ok (.iastore, 1) := by decide +kernel
theorem dX5_gorge_96 : decode cX5_gorge 96 = .ok (.aload_n 0, 1) := by decide +kernel
theorem dX5_gorge_97 : decode cX5_gorge 97 = .ok (.getfield 32, 3) := by decide +kernel
theorem dX5_gorge_100 : decode cX5_gorge 100 = .ok (.iload_n 1, 1) := by decide +kernel
theorem dX5_gorge_101 : decode cX5_gorge 101 = .ok (.iload_n 1, 1) := by decide +kernel
theorem dX5_gorge_102 : decode cX5_gorge 102 = .ok (.iastore, 1) := by decide +kernel
theorem dX5_gorge_103 : decode cX5_gorge 103 = .ok (.iinc 1 1, 3) := by decide +kernel
theorem dX5_gorge_106 : decode cX5_gorge 106 = .ok (.goto (-42), 3) := by decide +kernel
theorem dX5_gorge_109 : decode cX5_gorge 109 = .ok (.aload_n 0, 1) := by decide +kernel
theorem dX5_gorge_110 : decode cX5_gorge 110 = .ok (.getfield 32, 3) := by decide +kernel
theorem dX5_gorge_113 : decode cX5_gorge 113 = .ok (.iconst 5, 1) := by decide +kernel
theorem dX5_gorge_114 : decode cX5_gorge 114 = .ok (.aload_n 0, 1) := by decide +kernel
theorem dX5_gorge_115 : decode cX5_gorge 115 = .ok (.getfield 60, 3) := by decide +kernel
theorem dX5_gorge_118 : decode cX5_gorge 118 = .ok (.iastore, 1) := by decide +kernel
theorem dX5_gorge_119 : decode cX5_gorge 119 = .ok (.aload_n 0, 1) := by decide +kernel
theorem dX5_gorge_120 : decode cX5_gorge 120 = .ok (.iconst 0, 1) := by decide +kernel
theorem dX5_gorge_121 : decode cX5_gorge 121 = .ok (.putfield 92, 3) := by decide +kernel
theorem dX5_gorge_124 : decode cX5_gorge 124 = .ok (.aload_n 0, 1) := by decide +kernel
theorem dX5_gorge_125 : decode cX5_gorge 125 = .ok (.getfield 44, 3) := by decide +kernel
theorem dX5_gorge_128 : decode cX5_gorge 128 = .ok (.iconst 0, 1) := by decide +kernel
theorem dX5_gorge_129 : decode cX5_gorge 129 = .ok (.iconst 0, 1) := by decide +kernel
theorem dX5_gorge_130 : decode cX5_gorge 130 = .ok (.bastore, 1) := by decide +kernel
theorem dX5_gorge_131 : decode cX5_gorge 131 = .ok (.aload_n 0, 1) := by decide +kernel
theorem dX5_gorge_132 : decode cX5_gorge 132 = .ok (.getfield 44, 3) := by decide +kernel
theorem dX5_gorge_135 : decode cX5_gorge 135 = .ok (.iconst 1, 1) := by decide +kernel
theorem dX5_gorge_136 : decode cX5_gorge 136 = .ok (.iconst 0, 1) := by decide +kernel
theorem dX5_gorge_137 : decode cX5_gorge 137 = .ok (.bastore, 1) := by decide +kernel
theorem dX5_gorge_138 : decode cX5_gorge 138 = .ok (.aload_n 0, 1) := by decide +kernel
theorem dX5_gorge_139 : decode cX5_gorge 139 = .ok (.getfield 60, 3) := by decide +kernel
theorem dX5_gorge_142 : decode cX5_gorge 142 = .ok (.ireturn, 1) := by decide +kernel
theorem dX5_rowOf_0 : decode cX5_rowOf 0 = .ok (.iconst 0, 1) := by decide +kernel
theorem dX5_rowOf_1 : decode cX5_rowOf 1 = .ok (.istore_n 1, 1) := by decide +kernel
theorem dX5_rowOf_2 : decode cX5_rowOf 2 = .ok (.iconst 0, 1) := by decide +kernel
theorem dX5_rowOf_3 : decode cX5_rowOf 3 = .ok (.istore_n 2, 1) := by decide +kernel
theorem dX5_rowOf_4 : decode cX5_rowOf 4 = .ok (.iload_n 2, 1) := by decide +kernel
theorem dX5_rowOf_5 : decode cX5_rowOf 5 = .ok (.aload_n 0, 1) := by decide +kernel
theorem dX5_rowOf_6 : decode cX5_rowOf 6 = .ok (.iconst 5, 1) := by decide +kernel
theorem dX5_rowOf_7 : decode cX5_rowOf 7 = .ok (.iaload, 1) := by decide +kernel
theorem dX5_rowOf_8 : decode cX5_rowOf 8 = .ok (.if_icmp .ge 17, 3) := by decide +kernel
theorem dX5_rowOf_11 : decode cX5_rowOf 11 = .ok (.iload_n 1, 1) := by decide +kernel
theorem dX5_rowOf_12 : decode cX5_rowOf 12 = .ok (.iconst 1, 1) := by decide +kernel
theorem dX5_rowOf_13 : decode cX5_rowOf 13 = .ok (.aload_n 0, 1) := by decide +kernel
theorem dX5_rowOf_14 : decode cX5_rowOf 14 = .ok (.iload_n 2, 1) := by decide +kernel
theorem dX5_rowOf_15 : decode cX5_rowOf 15 = .ok (.iaload, 1) := by decide +kernel
theorem dX5_rowOf_16 : decode cX5_rowOf 16 = .ok (.ishl, 1) := by decide +kernel
theorem dX5_rowOf_17 : decode cX5_rowOf 17 = .ok (.ior, 1) := by decide +kernel
theorem dX5_rowOf_18 : decode cX5_rowOf 18 = .ok (.istore_n 1, 1) := by decide +kernel
theorem dX5_rowOf_19 : decode cX5_rowOf 19 = .ok (.iinc 2 1, 3) := by decide +kernel
theorem dX5_rowOf_22 : decode cX5_rowOf 22 = .ok (.goto (-18), 3) := by decide +kernel
theorem dX5_rowOf_25 : decode cX5_rowOf 25 = .ok (.iload_n 1, 1) := by decide +kernel
theorem dX5_rowOf_26 : decode cX5_rowOf 26 = .ok (.ireturn, 1) := by decide +kernel
theorem dX5_figuresOf_0 : decode cX5_figuresOf 0 = .ok (.iconst 0, 1) := by decide +kernel
theorem dX5_figuresOf_1 : decode cX5_figuresOf 1 = .ok (.istore_n 1, 1) := by decide +kernel
theorem dX5_figuresOf_2 : decode cX5_figuresOf 2 = .ok (.iconst 0, 1) := by decide +kernel
theorem dX5_figuresOf_3 : decode cX5_figuresOf 3 = .ok (.istore_n 2, 1) := by decide +kernel
theorem dX5_figuresOf_4 : decode cX5_figuresOf 4 = .ok (.iload_n 2, 1) := by decide +kernel
theorem dX5_figuresOf_5 : decode cX5_figuresOf 5 = .ok (.aload_n 0, 1) := by decide +kernel
theorem dX5_figuresOf_6 : decode cX5_figuresOf 6 = .ok (.iconst 5, 1) := by decide +kernel
theorem dX5_figuresOf_7 : decode cX5_figuresOf 7 = .ok (.iaload, 1) := by decide +kernel
theorem dX5_figuresOf_8 : decode cX5_figuresOf 8 = .ok (.if_icmp .ge 20, 3) := by decide +kernel
theorem dX5_figuresOf_11 : decode cX5_figuresOf 11 = .ok (.bipush 10, 2) := by decide +kernel
theorem dX5_figuresOf_13 : decode cX5_figuresOf 13 = .ok (.iload_n 1, 1) := by decide +kernel
theorem dX5_figuresOf_14 : decode cX5_figuresOf 14 = .ok (.imul, 1) := by decide +kernel
theorem dX5_figuresOf_15 : decode cX5_figuresOf 15 = .ok (.aload_n 0, 1) := by decide +kernel
theorem dX5_figuresOf_16 : decode cX5_figuresOf 16 = .ok (.iload_n 2, 1) := by decide +kernel
theorem dX5_figuresOf_17 : decode cX5_figuresOf 17 = .ok (.iaload, 1) := by decide +kernel
theorem dX5_figuresOf_18 : decode cX5_figuresOf 18 = .ok (.iadd, 1) := by decide +kernel
theorem dX5_figuresOf_19 : decode cX5_figuresOf 19 = .ok (.iconst 1, 1) := by decide +kernel
theorem dX5_figuresOf_20 : decode cX5_figuresOf 20 = .ok (.iadd, 1) := by decide +kernel
theorem dX5_figuresOf_21 : decode cX5_figuresOf 21 = .ok (.istore_n 1, 1) := by decide +kernel
theorem dX5_figuresOf_22 : decode cX5_figuresOf 22 = .ok (.iinc 2 1, 3) := by decide +kernel
theorem dX5_figuresOf_25 : decode cX5_figuresOf 25 = .ok (.goto (-21), 3) := by decide +kernel
theorem dX5_figuresOf_28 : decode cX5_figuresOf 28 = .ok (.iload_n 1, 1) := by decide +kernel
theorem dX5_figuresOf_29 : decode cX5_figuresOf 29 = .ok (.ireturn, 1) := by decide +kernel
set_option maxRecDepth 20000 in
theorem ggX5_about_X5_rowOf : GoodIn wsX5_about wsX5_rowOf := goodIn_r _ [12] (by decide +kernel) (by decide +kernel)
set_option maxRecDepth 20000 in
theorem gX5_about_X5_rowOf : GoodIn wsX5_about (va_wsS RX5 95 yX5_rowOf wsX5_rowOf) := goodIn_app (goodIn_of _ (by decide +kernel)) ggX5_about_X5_rowOf
set_option maxRecDepth 20000 in
theorem ggX5_about_X5_figuresOf : GoodIn wsX5_about wsX5_figuresOf := goodIn_r _ [15] (by decide +kernel) (by decide +kernel)
set_option maxRecDepth 20000 in
theorem gX5_about_X5_figuresOf : GoodIn wsX5_about (va_wsS RX5 99 yX5_figuresOf wsX5_figuresOf) := goodIn_app (goodIn_of _ (by decide +kernel)) ggX5_about_X5_figuresOf
theorem dX5_about_0 : decode cX5_about 0 = .ok (.aload_n 0, 1) := by decide +kernel
theorem dX5_about_1 : decode cX5_about 1 = .ok (.iconst 0, 1) := by decide +kernel
theorem dX5_about_2 : decode cX5_about 2 = .ok (.putfield 57, 3) := by decide +kernel
theorem dX5_about_5 : decode cX5_about 5 = .ok (.iload_n 1, 1) := by decide +kernel
theorem dX5_about_6 : decode cX5_about 6 = .ok (.tableswitch 140 0 10 #[58, 63, 68, 73, 81, 89, 97, 105, 110, 115, 120], 58) := by decide +kernel
theorem dX5_about_64 : decode cX5_about 64 = .ok (.aload_n 0, 1) := by decide +kernel
theorem dX5_about_65 : decode cX5_about 65 = .ok (.getfield 60, 3) := by decide +kernel
theorem dX5_about_68 : decode cX5_about 68 = .ok (.ireturn, 1) := by decide +kernel
theorem dX5_about_69 : decode cX5_about 69 = .ok (.aload_n 0, 1) := by decide +kernel
theorem dX5_about_70 : decode cX5_about 70 = .ok (.getfield 13, 3) := by decide +kernel
theorem dX5_about_73 : decode cX5_about 73 = .ok (.ireturn, 1) := by decide +kernel
theorem dX5_about_74 : decode cX5_about 74 = .ok (.aload_n 0, 1) := by decide +kernel
theorem dX5_about_75 : decode cX5_about 75 = .ok (.getfield 17, 3) := by decide +kernel
theorem dX5_about_78 : decode cX5_about 78 = .ok (.ireturn, 1) := by decide +kernel
theorem dX5_about_79 : decode cX5_about 79 = .ok (.aload_n 0, 1) := by decide +kernel
theorem dX5_about_80 : decode cX5_about 80 = .ok (.getfield 32, 3) := by decide +kernel
theorem dX5_about_83 : decode cX5_about 83 = .ok (.bipush 11, 2) := by decide +kernel
theorem dX5_about_85 : decode cX5_about 85 = .ok (.iaload, 1) := by decide +kernel
theorem dX5_about_86 : decode cX5_about 86 = .ok (.ireturn, 1) := by decide +kernel
theorem dX5_about_87 : decode cX5_about 87 = .ok (.aload_n 0, 1) := by decide +kernel
theorem dX5_about_88 : decode cX5_about 88 = .ok (.getfield 32, 3) := by decide +kernel
theorem dX5_about_91 : decode cX5_about 91 = .ok (.invokestatic 95, 3) := by decide +kernel
theorem dX5_about_94 : decode cX5_about 94 = .ok (.ireturn, 1) := by decide +kernel
theorem dX5_about_95 : decode cX5_about 95 = .ok (.aload_n 0, 1) := by decide +kernel
theorem dX5_about_96 : decode cX5_about 96 = .ok (.getfield 32, 3) := by decide +kernel
theorem dX5_about_99 : decode cX5_about 99 = .ok (.bipush 12, 2) := by decide +kernel
theorem dX5_about_101 : decode cX5_about 101 = .ok (.iaload, 1) := by decide +kernel
theorem dX5_about_102 : decode cX5_about 102 = .ok (.ireturn, 1) := by decide +kernel
theorem dX5_about_103 : decode cX5_about 103 = .ok (.aload_n 0, 1) := by decide +kernel
theorem dX5_about_104 : decode cX5_about 104 = .ok (.getfield 32, 3) := by decide +kernel
theorem dX5_about_107 : decode cX5_about 107 = .ok (.invokestatic 99, 3) := by decide +kernel
theorem dX5_about_110 : decode cX5_about 110 = .ok (.ireturn, 1) := by decide +kernel
theorem dX5_about_111 : decode cX5_about 111 = .ok (.aload_n 0, 1) := by decide +kernel
theorem dX5_about_112 : decode cX5_about 112 = .ok (.getfield 92, 3) := by decide +kernel
theorem dX5_about_115 : decode cX5_about 115 = .ok (.ireturn, 1) := by decide +kernel
theorem dX5_about_116 : decode cX5_about 116 = .ok (.aload_n 0, 1) := by decide +kernel
theorem dX5_about_117 : decode cX5_about 117 = .ok (.getfield 102, 3) := by decide +kernel
theorem dX5_about_120 : decode cX5_about 120 = .ok (.ireturn, 1) := by decide +kernel
theorem dX5_about_121 : decode cX5_about 121 = .ok (.aload_n 0, 1) := by decide +kernel
theorem dX5_about_122 : decode cX5_about 122 = .ok (.getfield 69, 3) := by decide +kernel
theorem dX5_about_125 : decode cX5_about 125 = .ok (.ireturn, 1) := by decide +kernel
theorem dX5_about_126 : decode cX5_about 126 = .ok (.aload_n 0, 1) := by decide +kernel
theorem dX5_about_127 : decode cX5_about 127 = .ok (.getfield 32, 3) := by decide +kernel
theorem dX5_about_130 : decode cX5_about 130 = .ok (.bipush 11, 2) := by decide +kernel
theorem dX5_about_132 : decode cX5_about 132 = .ok (.iaload, 1) := by decide +kernel
theorem dX5_about_133 : decode cX5_about 133 = .ok (.aload_n 0, 1) := by decide +kernel
theorem dX5_about_134 : decode cX5_about 134 = .ok (.getfield 13, 3) := by decide +kernel
theorem dX5_about_137 : decode cX5_about 137 = .ok (.if_icmp .ne 7, 3) := by decide +kernel
theorem dX5_about_140 : decode cX5_about 140 = .ok (.iconst 1, 1) := by decide +kernel
theorem dX5_about_141 : decode cX5_about 141 = .ok (.goto 4, 3) := by decide +kernel
theorem dX5_about_144 : decode cX5_about 144 = .ok (.iconst 0, 1) := by decide +kernel
theorem dX5_about_145 : decode cX5_about 145 = .ok (.ireturn, 1) := by decide +kernel
theorem dX5_about_146 : decode cX5_about 146 = .ok (.bipush (-2), 2) := by decide +kernel
theorem dX5_about_148 : decode cX5_about 148 = .ok (.ireturn, 1) := by decide +kernel
theorem dX5_placeOf_0 : decode cX5_placeOf 0 = .ok (.bipush (-9), 2) := by decide +kernel
theorem dX5_placeOf_2 : decode cX5_placeOf 2 = .ok (.istore_n 2, 1) := by decide +kernel
theorem dX5_placeOf_3 : decode cX5_placeOf 3 = .ok (.iconst 0, 1) := by decide +kernel
theorem dX5_placeOf_4 : decode cX5_placeOf 4 = .ok (.istore_n 3, 1) := by decide +kernel
theorem dX5_placeOf_5 : decode cX5_placeOf 5 = .ok (.iload_n 3, 1) := by decide +kernel
theorem dX5_placeOf_6 : decode cX5_placeOf 6 = .ok (.aload_n 0, 1) := by decide +kernel
theorem dX5_placeOf_7 : decode cX5_placeOf 7 = .ok (.iconst 5, 1) := by decide +kernel
theorem dX5_placeOf_8 : decode cX5_placeOf 8 = .ok (.iaload, 1) := by decide +kernel
theorem dX5_placeOf_9 : decode cX5_placeOf 9 = .ok (.if_icmp .ge 22, 3) := by decide +kernel
theorem dX5_placeOf_12 : decode cX5_placeOf 12 = .ok (.aload_n 0, 1) := by decide +kernel
theorem dX5_placeOf_13 : decode cX5_placeOf 13 = .ok (.iload_n 3, 1) := by decide +kernel
theorem dX5_placeOf_14 : decode cX5_placeOf 14 = .ok (.iaload, 1) := by decide +kernel
theorem dX5_placeOf_15 : decode cX5_placeOf 15 = .ok (.iload_n 1, 1) := by decide +kernel
theorem dX5_placeOf_16 : decode cX5_placeOf 16 = .ok (.if_icmp .ne 7, 3) := by decide +kernel
theorem dX5_placeOf_19 : decode cX5_placeOf 19 = .ok (.iload_n 3, 1) := by decide +kernel
theorem dX5_placeOf_20 : decode cX5_placeOf 20 = .ok (.goto 4, 3) := by decide +kernel
theorem dX5_placeOf_23 : decode cX5_placeOf 23 = .ok (.iload_n 2, 1) := by decide +kernel
theorem dX5_placeOf_24 : decode cX5_placeOf 24 = .ok (.istore_n 2, 1) := by decide +kernel
theorem dX5_placeOf_25 : decode cX5_placeOf 25 = .ok (.iinc 3 1, 3) := by decide +kernel
theorem dX5_placeOf_28 : decode cX5_placeOf 28 = .ok (.goto (-23), 3) := by decide +kernel
theorem dX5_placeOf_31 : decode cX5_placeOf 31 = .ok (.iload_n 2, 1) := by decide +kernel
theorem dX5_placeOf_32 : decode cX5_placeOf 32 = .ok (.ireturn, 1) := by decide +kernel
set_option maxRecDepth 20000 in
theorem ggX5_walker_X5_noOne : GoodIn wsX5_walker wsX5_noOne := goodIn_r _ [9, 10, 11, 12, 8, 13, 17, 18, 19, 20, 21, 22, 23, 24, 25, 26, 27, 28, 29, 30, 31, 32, 33, 34, 35, 36, 37, 38, 39, 40, 41, 42, 43, 44] (by decide +kernel) (by decide +kernel)
set_option maxRecDepth 20000 in
theorem gX5_walker_X5_noOne : GoodIn wsX5_walker (wsV RX5 105 RX5 yX5_noOne wsX5_noOne) := goodIn_app (goodIn_of _ (by decide +kernel)) ggX5_walker_X5_noOne
set_option maxRecDepth 20000 in
theorem ggX5_walker_X5_placeOf : GoodIn wsX5_walker wsX5_placeOf := goodIn_r _ [16] (by decide +kernel) (by decide +kernel)
set_option maxRecDepth 20000 in
theorem gX5_walker_X5_placeOf : GoodIn wsX5_walker (va_wsS RX5 109 yX5_placeOf wsX5_placeOf) := goodIn_app (goodIn_of _ (by decide +kernel)) ggX5_walker_X5_placeOf
theorem dX5_walker_0 : decode cX5_walker 0 = .ok (.aload_n 0, 1) := by decide +kernel
theorem dX5_walker_1 : decode cX5_walker 1 = .ok (.iconst 0, 1) := by decide +kernel
theorem dX5_walker_2 : decode cX5_walker 2 = .ok (.putfield 57, 3) := by decide +kernel
theorem dX5_walker_5 : decode cX5_walker 5 = .ok (.aload_n 0, 1) := by decide +kernel
theorem dX5_walker_6 : decode cX5_walker 6 = .ok (.iload_n 1, 1) := by decide +kernel
theorem dX5_walker_7 : decode cX5_walker 7 = .ok (.invokevirtual 105, 3) := by decide +kernel
theorem dX5_walker_10 : decode cX5_walker 10 = .ok (.ifCond .eq 5, 3) := by decide +kernel
theorem dX5_walker_13 : decode cX5_walker 13 = .ok (.iconst (-1), 1) := by decide +kernel
theorem dX5_walker_14 : decode cX5_walker 14 = .ok (.ireturn, 1) := by decide +kernel
theorem dX5_walker_15 : decode cX5_walker 15 = .ok (.aload_n 0, 1) := by decide +kernel
theorem dX5_walker_16 : decode cX5_walker 16 = .ok (.getfield 32, 3) := by decide +kernel
theorem dX5_walker_19 : decode cX5_walker 19 = .ok (.iload_n 1, 1) := by decide +kernel
theorem dX5_walker_20 : decode cX5_walker 20 = .ok (.invokestatic 109, 3) := by decide +kernel
theorem dX5_walker_23 : decode cX5_walker 23 = .ok (.istore_n 3, 1) := by decide +kernel
theorem dX5_walker_24 : decode cX5_walker 24 = .ok (.iload_n 2, 1) := by decide +kernel
theorem dX5_walker_25 : decode cX5_walker 25 = .ok (.tableswitch 93 0 4 #[35, 42, 49, 59, 61], 35) := by decide +kernel
theorem dX5_walker_60 : decode cX5_walker 60 = .ok (.aload_n 0, 1) := by decide +kernel
theorem dX5_walker_61 : decode cX5_walker 61 = .ok (.getfield 20, 3) := by decide +kernel
theorem dX5_walker_64 : decode cX5_walker 64 = .ok (.iload_n 1, 1) := by decide +kernel
theorem dX5_walker_65 : decode cX5_walker 65 = .ok (.iaload, 1) := by decide +kernel
theorem dX5_walker_66 : decode cX5_walker 66 = .ok (.ireturn, 1) := by decide +kernel
theorem dX5_walker_67 : decode cX5_walker 67 = .ok (.aload_n 0, 1) := by decide +kernel
theorem dX5_walker_68 : decode cX5_walker 68 = .ok (.getfield 23, 3) := by decide +kernel
theorem dX5_walker_71 : decode cX5_walker 71 = .ok (.iload_n 1, 1) := by decide +kernel
theorem dX5_walker_72 : decode cX5_walker 72 = .ok (.iaload, 1) := by decide +kernel
theorem dX5_walker_73 : decode cX5_walker 73 = .ok (.ireturn, 1) := by decide +kernel
theorem dX5_walker_74 : decode cX5_walker 74 = .ok (.aload_n 0, 1) := by decide +kernel
theorem dX5_walker_75 : decode cX5_walker 75 = .ok (.getfield 32, 3) := by decide +kernel
theorem dX5_walker_78 : decode cX5_walker 78 = .ok (.bipush 6, 2) := by decide +kernel
theorem dX5_walker_80 : decode cX5_walker 80 = .ok (.iload_n 1, 1) := by decide +kernel
theorem dX5_walker_81 : decode cX5_walker 81 = .ok (.iadd, 1) := by decide +kernel
theorem dX5_walker_82 : decode cX5_walker 82 = .ok (.iaload, 1) := by decide +kernel
theorem dX5_walker_83 : decode cX5_walker 83 = .ok (.ireturn, 1) := by decide +kernel
theorem dX5_walker_84 : decode cX5_walker 84 = .ok (.iload_n 3, 1) := by decide +kernel
theorem dX5_walker_85 : decode cX5_walker 85 = .ok (.ireturn, 1) := by decide +kernel
theorem dX5_walker_86 : decode cX5_walker 86 = .ok (.iload_n 3, 1) := by decide +kernel
theorem dX5_walker_87 : decode cX5_walker 87 = .ok (.bipush (-9), 2) := by decide +kernel
theorem dX5_walker_89 : decode cX5_walker 89 = .ok (.if_icmp .eq 15, 3) := by decide +kernel
theorem dX5_walker_92 : decode cX5_walker 92 = .ok (.iload_n 3, 1) := by decide +kernel
theorem dX5_walker_93 : decode cX5_walker 93 = .ok (.iconst 1, 1) := by decide +kernel
theorem dX5_walker_94 : decode cX5_walker 94 = .ok (.iadd, 1) := by decide +kernel
theorem dX5_walker_95 : decode cX5_walker 95 = .ok (.aload_n 0, 1) := by decide +kernel
theorem dX5_walker_96 : decode cX5_walker 96 = .ok (.getfield 32, 3) := by decide +kernel
theorem dX5_walker_99 : decode cX5_walker 99 = .ok (.iconst 5, 1) := by decide +kernel
theorem dX5_walker_100 : decode cX5_walker 100 = .ok (.iaload, 1) := by decide +kernel
theorem dX5_walker_101 : decode cX5_walker 101 = .ok (.if_icmp .ne 8, 3) := by decide +kernel
theorem dX5_walker_104 : decode cX5_walker 104 = .ok (.bipush (-9), 2) := by decide +kernel
theorem dX5_walker_106 : decode cX5_walker 106 = .ok (.goto 11, 3) := by decide +kernel
theorem dX5_walker_109 : decode cX5_walker 109 = .ok (.aload_n 0, 1) := by decide +kernel
theorem dX5_walker_110 : decode cX5_walker 110 = .ok (.getfield 32, 3) := by decide +kernel
theorem dX5_walker_113 : decode cX5_walker 113 = .ok (.iload_n 3, 1) := by decide +kernel
theorem dX5_walker_114 : decode cX5_walker 114 = .ok (.iconst 1, 1) := by decide +kernel
theorem dX5_walker_115 : decode cX5_walker 115 = .ok (.iadd, 1) := by decide +kernel
theorem dX5_walker_116 : decode cX5_walker 116 = .ok (.iaload, 1) := by decide +kernel
theorem dX5_walker_117 : decode cX5_walker 117 = .ok (.ireturn, 1) := by decide +kernel
theorem dX5_walker_118 : decode cX5_walker 118 = .ok (.bipush (-2), 2) := by decide +kernel
theorem dX5_walker_120 : decode cX5_walker 120 = .ok (.ireturn, 1) := by decide +kernel
set_option maxRecDepth 20000 in
theorem ggX5_isHeard_X5_has : GoodIn wsX5_isHeard wsX5_has := goodIn_r _ [6] (by decide +kernel) (by decide +kernel)
set_option maxRecDepth 20000 in
theorem gX5_isHeard_X5_has : GoodIn wsX5_isHeard (va_wsS RX5 113 yX5_has wsX5_has) := goodIn_app (goodIn_of _ (by decide +kernel)) ggX5_isHeard_X5_has
theorem dX5_isHeard_0 : decode cX5_isHeard 0 = .ok (.iload_n 3, 1) := by decide +kernel
theorem dX5_isHeard_1 : decode cX5_isHeard 1 = .ok (.iload_n 2, 1) := by decide +kernel
theorem dX5_isHeard_2 : decode cX5_isHeard 2 = .ok (.invokestatic 113, 3) := by decide +kernel
theorem dX5_isHeard_5 : decode cX5_isHeard 5 = .ok (.ifCond .eq 26, 3) := by decide +kernel
theorem dX5_isHeard_8 : decode cX5_isHeard 8 = .ok (.aload_n 0, 1) := by decide +kernel
theorem dX5_isHeard_9 : decode cX5_isHeard 9 = .ok (.getfield 23, 3) := by decide +kernel
theorem dX5_isHeard_12 : decode cX5_isHeard 12 = .ok (.iload_n 2, 1) := by decide +kernel
theorem dX5_isHeard_13 : decode cX5_isHeard 13 = .ok (.iaload, 1) := by decide +kernel
theorem dX5_isHeard_14 : decode cX5_isHeard 14 = .ok (.iconst 3, 1) := by decide +kernel
theorem dX5_isHeard_15 : decode cX5_isHeard 15 = .ok (.if_icmp .ne 12, 3) := by decide +kernel
theorem dX5_isHeard_18 : decode cX5_isHeard 18 = .ok (.aload_n 1, 1) := by decide +kernel
theorem dX5_isHeard_19 : decode cX5_isHeard 19 = .ok (.bipush 11, 2) := by decide +kernel
theorem dX5_isHeard_21 : decode cX5_isHeard 21 = .ok (.iaload, 1) := by decide +kernel
theorem dX5_isHeard_22 : decode cX5_isHeard 22 = .ok (.iconst 2, 1) := by decide +kernel
theorem dX5_isHeard_23 : decode cX5_isHeard 23 = .ok (.irem, 1) := by decide +kernel
theorem dX5_isHeard_24 : decode cX5_isHeard 24 = .ok (.ifCond .ne 7, 3) := by decide +kernel
theorem dX5_isHeard_27 : decode cX5_isHeard 27 = .ok (.iconst 1, 1) := by decide +kernel
theorem dX5_isHeard_28 : decode cX5_isHeard 28 = .ok (.goto 4, 3) := by decide +kernel
theorem dX5_isHeard_31 : decode cX5_isHeard 31 = .ok (.iconst 0, 1) := by decide +kernel
theorem dX5_isHeard_32 : decode cX5_isHeard 32 = .ok (.istore 4, 2) := by decide +kernel
theorem dX5_isHeard_34 : decode cX5_isHeard 34 = .ok (.iload 4, 2) := by decide +kernel
theorem dX5_isHeard_36 : decode cX5_isHeard 36 = .ok (.ifCond .ne 24, 3) := by decide +kernel
theorem dX5_isHeard_39 : decode cX5_isHeard 39 = .ok (.aload_n 0, 1) := by decide +kernel
theorem dX5_isHeard_40 : decode cX5_isHeard 40 = .ok (.getfield 23, 3) := by decide +kernel
theorem dX5_isHeard_43 : decode cX5_isHeard 43 = .ok (.iload_n 2, 1) := by decide +kernel
theorem dX5_isHeard_44 : decode cX5_isHeard 44 = .ok (.iaload, 1) := by decide +kernel
theorem dX5_isHeard_45 : decode cX5_isHeard 45 = .ok (.iconst 2, 1) := by decide +kernel
theorem dX5_isHeard_46 : decode cX5_isHeard 46 = .ok (.if_icmp .eq 14, 3) := by decide +kernel
theorem dX5_isHeard_49 : decode cX5_isHeard 49 = .ok (.aload_n 1, 1) := by decide +kernel
theorem dX5_isHeard_50 : decode cX5_isHeard 50 = .ok (.bipush 11, 2) := by decide +kernel
theorem dX5_isHeard_52 : decode cX5_isHeard 52 = .ok (.iaload, 1) := by decide +kernel
theorem dX5_isHeard_53 : decode cX5_isHeard 53 = .ok (.aload_n 0, 1) := by decide +kernel
theorem dX5_isHeard_54 : decode cX5_isHeard 54 = .ok (.getfield 17, 3) := by decide +kernel
theorem dX5_isHeard_57 : decode cX5_isHeard 57 = .ok (.if_icmp .ne 7, 3) := by decide +kernel
theorem dX5_isHeard_60 : decode cX5_isHeard 60 = .ok (.iconst 1, 1) := by decide +kernel
theorem dX5_isHeard_61 : decode cX5_isHeard 61 = .ok (.goto 4, 3) := by decide +kernel
theorem dX5_isHeard_64 : decode cX5_isHeard 64 = .ok (.iconst 0, 1) := by decide +kernel
theorem dX5_isHeard_65 : decode cX5_isHeard 65 = .ok (.ireturn, 1) := by decide +kernel
set_option maxRecDepth 20000 in
theorem ggX5_goMinute_X5_isHeard : GoodIn wsX5_goMinute wsX5_isHeard := goodIn_r _ [8, 1, 9, 10, 11, 7, 12, 13, 14, 15, 16, 17, 18, 19, 20, 21, 22, 23, 24, 25, 26, 27, 28, 29, 30, 31, 32, 33, 34, 35, 36, 37, 38, 39, 40] (by decide +kernel) (by decide +kernel)
set_option maxRecDepth 20000 in
theorem gX5_goMinute_X5_isHeard : GoodIn wsX5_goMinute (wsV RX5 117 RX5 yX5_isHeard wsX5_isHeard) := goodIn_app (goodIn_of _ (by decide +kernel)) ggX5_goMinute_X5_isHeard
theorem dX5_goMinute_0 : decode cX5_goMinute 0 = .ok (.iconst 0, 1) := by decide +kernel
theorem dX5_goMinute_1 : decode cX5_goMinute 1 = .ok (.istore_n 3, 1) := by decide +kernel
theorem dX5_goMinute_2 : decode cX5_goMinute 2 = .ok (.iload_n 3, 1) := by decide +kernel
theorem dX5_goMinute_3 : decode cX5_goMinute 3 = .ok (.iconst 1, 1) := by decide +kernel
theorem dX5_goMinute_4 : decode cX5_goMinute 4 = .ok (.iadd, 1) := by decide +kernel
theorem dX5_goMinute_5 : decode cX5_goMinute 5 = .ok (.aload_n 1, 1) := by decide +kernel
theorem dX5_goMinute_6 : decode cX5_goMinute 6 = .ok (.iconst 5, 1) := by decide +kernel
theorem dX5_goMinute_7 : decode cX5_goMinute 7 = .ok (.iaload, 1) := by decide +kernel
theorem dX5_goMinute_8 : decode cX5_goMinute 8 = .ok (.if_icmp .ge 69, 3) := by decide +kernel
theorem dX5_goMinute_11 : decode cX5_goMinute 11 = .ok (.aload_n 0, 1) := by decide +kernel
theorem dX5_goMinute_12 : decode cX5_goMinute 12 = .ok (.getfield 23, 3) := by decide +kernel
theorem dX5_goMinute_15 : decode cX5_goMinute 15 = .ok (.aload_n 1, 1) := by decide +kernel
theorem dX5_goMinute_16 : decode cX5_goMinute 16 = .ok (.iload_n 3, 1) := by decide +kernel
theorem dX5_goMinute_17 : decode cX5_goMinute 17 = .ok (.iaload, 1) := by decide +kernel
theorem dX5_goMinute_18 : decode cX5_goMinute 18 = .ok (.iaload, 1) := by decide +kernel
theorem dX5_goMinute_19 : decode cX5_goMinute 19 = .ok (.iconst 1, 1) := by decide +kernel
theorem dX5_goMinute_20 : decode cX5_goMinute 20 = .ok (.if_icmp .eq 21, 3) := by decide +kernel
theorem dX5_goMinute_23 : decode cX5_goMinute 23 = .ok (.aload_n 0, 1) := by decide +kernel
theorem dX5_goMinute_24 : decode cX5_goMinute 24 = .ok (.aload_n 1, 1) := by decide +kernel
theorem dX5_goMinute_25 : decode cX5_goMinute 25 = .ok (.aload_n 1, 1) := by decide +kernel
theorem dX5_goMinute_26 : decode cX5_goMinute 26 = .ok (.iload_n 3, 1) := by decide +kernel
theorem dX5_goMinute_27 : decode cX5_goMinute 27 = .ok (.iconst 1, 1) := by decide +kernel
theorem dX5_goMinute_28 : decode cX5_goMinute 28 = .ok (.iadd, 1) := by decide +kernel
theorem dX5_goMinute_29 : decode cX5_goMinute 29 = .ok (.iaload, 1) := by decide +kernel
theorem dX5_goMinute_30 : decode cX5_goMinute 30 = .ok (.iload_n 2, 1) := by decide +kernel
theorem dX5_goMinute_31 : decode cX5_goMinute 31 = .ok (.invokevirtual 117, 3) := by decide +kernel
theorem dX5_goMinute_34 : decode cX5_goMinute 34 = .ok (.ifCond .eq 7, 3) := by decide +kernel
theorem dX5_goMinute_37 : decode cX5_goMinute 37 = .ok (.iconst 1, 1) := by decide +kernel
theorem dX5_goMinute_38 : decode cX5_goMinute 38 = .ok (.goto 4, 3) := by decide +kernel
theorem dX5_goMinute_41 : decode cX5_goMinute 41 = .ok (.iconst 0, 1) := by decide +kernel
theorem dX5_goMinute_42 : decode cX5_goMinute 42 = .ok (.istore 4, 2) := by decide +kernel
theorem dX5_goMinute_44 : decode cX5_goMinute 44 = .ok (.aload_n 1, 1) := by decide +kernel
theorem dX5_goMinute_45 : decode cX5_goMinute 45 = .ok (.bipush 6, 2) := by decide +kernel
theorem dX5_goMinute_47 : decode cX5_goMinute 47 = .ok (.aload_n 1, 1) := by decide +kernel
theorem dX5_goMinute_48 : decode cX5_goMinute 48 = .ok (.iload_n 3, 1) := by decide +kernel
theorem dX5_goMinute_49 : decode cX5_goMinute 49 = .ok (.iaload, 1) := by decide +kernel
theorem dX5_goMinute_50 : decode cX5_goMinute 50 = .ok (.iadd, 1) := by decide +kernel
theorem dX5_goMinute_51 : decode cX5_goMinute 51 = .ok (.iload 4, 2) := by decide +kernel
theorem dX5_goMinute_53 : decode cX5_goMinute 53 = .ok (.ifCond .eq 7, 3) := by decide +kernel
theorem dX5_goMinute_56 : decode cX5_goMinute 56 = .ok (.iconst 0, 1) := by decide +kernel
theorem dX5_goMinute_57 : decode cX5_goMinute 57 = .ok (.goto 13, 3) := by decide +kernel
theorem dX5_goMinute_60 : decode cX5_goMinute 60 = .ok (.aload_n 1, 1) := by decide +kernel
theorem dX5_goMinute_61 : decode cX5_goMinute 61 = .ok (.bipush 6, 2) := by decide +kernel
theorem dX5_goMinute_63 : decode cX5_goMinute 63 = .ok (.aload_n 1, 1) := by decide +kernel
theorem dX5_goMinute_64 : decode cX5_goMinute 64 = .ok (.iload_n 3, 1) := by decide +kernel
theorem dX5_goMinute_65 : decode cX5_goMinute 65 = .ok (.iaload, 1) := by decide +kernel
theorem dX5_goMinute_66 : decode cX5_goMinute 66 = .ok (.iadd, 1) := by decide +kernel
theorem dX5_goMinute_67 : decode cX5_goMinute 67 = .ok (.iaload, 1) := by decide +kernel
theorem dX5_goMinute_68 : decode cX5_goMinute 68 = .ok (.iconst 1, 1) := by decide +kernel
theorem dX5_goMinute_69 : decode cX5_goMinute 69 = .ok (.iadd, 1) := by decide +kernel
theorem dX5_goMinute_70 : decode cX5_goMinute 70 = .ok (.iastore, 1) := by decide +kernel
theorem dX5_goMinute_71 : decode cX5_goMinute 71 = .ok (.iinc 3 1, 3) := by decide +kernel
theorem dX5_goMinute_74 : decode cX5_goMinute 74 = .ok (.goto (-72), 3) := by decide +kernel
theorem dX5_goMinute_77 : decode cX5_goMinute 77 = .ok (.aload_n 0, 1) := by decide +kernel
theorem dX5_goMinute_78 : decode cX5_goMinute 78 = .ok (.iconst 0, 1) := by decide +kernel
theorem dX5_goMinute_79 : decode cX5_goMinute 79 = .ok (.putfield 121, 3) := by decide +kernel
theorem dX5_goMinute_82 : decode cX5_goMinute 82 = .ok (.iconst 0, 1) := by decide +kernel
theorem dX5_goMinute_83 : decode cX5_goMinute 83 = .ok (.istore_n 3, 1) := by decide +kernel
theorem dX5_goMinute_84 : decode cX5_goMinute 84 = .ok (.iconst 0, 1) := by decide +kernel
theorem dX5_goMinute_85 : decode cX5_goMinute 85 = .ok (.istore 4, 2) := by decide +kernel
theorem dX5_goMinute_87 : decode cX5_goMinute 87 = .ok (.iload 4, 2) := by decide +kernel
theorem dX5_goMinute_89 : decode cX5_goMinute 89 = .ok (.iconst 1, 1) := by decide +kernel
theorem dX5_goMinute_90 : decode cX5_goMinute 90 = .ok (.iadd, 1) := by decide +kernel
theorem dX5_goMinute_91 : decode cX5_goMinute 91 = .ok (.aload_n 1, 1) := by decide +kernel
theorem dX5_goMinute_92 : decode cX5_goMinute 92 = .ok (.iconst 5, 1) := by decide +kernel
theorem dX5_goMinute_93 : decode cX5_goMinute 93 = .ok (.iaload, 1) := by decide +kernel
theorem dX5_goMinute_94 : decode cX5_goMinute 94 = .ok (.if_icmp .ge 112, 3) := by decide +kernel
theorem dX5_goMinute_97 : decode cX5_goMinute 97 = .ok (.aload_n 1, 1) := by decide +kernel
theorem dX5_goMinute_98 : decode cX5_goMinute 98 = .ok (.iload 4, 2) := by decide +kernel
theorem dX5_goMinute_100 : decode cX5_goMinute 100 = .ok (.iaload, 1) := by decide +kernel
theorem dX5_goMinute_101 : decode cX5_goMinute 101 = .ok (.istore 5, 2) := by decide +kernel
theorem dX5_goMinute_103 : decode cX5_goMinute 103 = .ok (.aload_n 0, 1) := by decide +kernel
theorem dX5_goMinute_104 : decode cX5_goMinute 104 = .ok (.getfield 23, 3) := by decide +kernel
theorem dX5_goMinute_107 : decode cX5_goMinute 107 = .ok (.iload 5, 2) := by decide +kernel
theorem dX5_goMinute_109 : decode cX5_goMinute 109 = .ok (.iaload, 1) := by decide +kernel
theorem dX5_goMinute_110 : decode cX5_goMinute 110 = .ok (.iconst 1, 1) := by decide +kernel
theorem dX5_goMinute_111 : decode cX5_goMinute 111 = .ok (.if_icmp .eq 89, 3) := by decide +kernel
theorem dX5_goMinute_114 : decode cX5_goMinute 114 = .ok (.aload_n 1, 1) := by decide +kernel
theorem dX5_goMinute_115 : decode cX5_goMinute 115 = .ok (.bipush 6, 2) := by decide +kernel
theorem dX5_goMinute_117 : decode cX5_goMinute 117 = .ok (.iload 5, 2) := by decide +kernel
theorem dX5_goMinute_119 : decode cX5_goMinute 119 = .ok (.iadd, 1) := by decide +kernel
theorem dX5_goMinute_120 : decode cX5_goMinute 120 = .ok (.iaload, 1) := by decide +kernel
theorem dX5_goMinute_121 : decode cX5_goMinute 121 = .ok (.aload_n 0, 1) := by decide +kernel
theorem dX5_goMinute_122 : decode cX5_goMinute 122 = .ok (.getfield 20, 3) := by decide +kernel
theorem dX5_goMinute_125 : decode cX5_goMinute 125 = .ok (.iload 5, 2) := by decide +kernel
theorem dX5_goMinute_127 : decode cX5_goMinute 127 = .ok (.iaload, 1) := by decide +kernel
theorem dX5_goMinute_128 : decode cX5_goMinute 128 = .ok (.if_icmp .le 72, 3) := by decide +kernel
theorem dX5_goMinute_131 : decode cX5_goMinute 131 = .ok (.aload_n 0, 1) := by decide +kernel
theorem dX5_goMinute_132 : decode cX5_goMinute 132 = .ok (.dup, 1) := by decide +kernel
theorem dX5_goMinute_133 : decode cX5_goMinute 133 = .ok (.getfield 121, 3) := by decide +kernel
theorem dX5_goMinute_136 : decode cX5_goMinute 136 = .ok (.iconst 1, 1) := by decide +kernel
theorem dX5_goMinute_137 : decode cX5_goMinute 137 = .ok (.iload 5, 2) := by decide +kernel
theorem dX5_goMinute_139 : decode cX5_goMinute 139 = .ok (.ishl, 1) := by decide +kernel
theorem dX5_goMinute_140 : decode cX5_goMinute 140 = .ok (.ior, 1) := by decide +kernel
theorem dX5_goMinute_141 : decode cX5_goMinute 141 = .ok (.putfield 121, 3) := by decide +kernel
theorem dX5_goMinute_144 : decode cX5_goMinute 144 = .ok (.aload_n 1, 1) := by decide +kernel
theorem dX5_goMinute_145 : decode cX5_goMinute 145 = .ok (.bipush 6, 2) := by decide +kernel
theorem dX5_goMinute_147 : decode cX5_goMinute 147 = .ok (.iload 5, 2) := by decide +kernel
theorem dX5_goMinute_149 : decode cX5_goMinute 149 = .ok (.iadd, 1) := by decide +kernel
theorem dX5_goMinute_150 : decode cX5_goMinute 150 = .ok (.iconst 0, 1) := by decide +kernel
theorem dX5_goMinute_151 : decode cX5_goMinute 151 = .ok (.iastore, 1) := by decide +kernel
theorem dX5_goMinute_152 : decode cX5_goMinute 152 = .ok (.iload_n 3, 1) := by decide +kernel
theorem dX5_goMinute_153 : decode cX5_goMinute 153 = .ok (.iconst 1, 1) := by decide +kernel
theorem dX5_goMinute_154 : decode cX5_goMinute 154 = .ok (.aload_n 1, 1) := by decide +kernel
theorem dX5_goMinute_155 : decode cX5_goMinute 155 = .ok (.iload 4, 2) := by decide +kernel
theorem dX5_goMinute_157 : decode cX5_goMinute 157 = .ok (.iconst 1, 1) := by decide +kernel
theorem dX5_goMinute_158 : decode cX5_goMinute 158 = .ok (.iadd, 1) := by decide +kernel
theorem dX5_goMinute_159 : decode cX5_goMinute 159 = .ok (.iaload, 1) := by decide +kernel
theorem dX5_goMinute_160 : decode cX5_goMinute 160 = .ok (.ishl, 1) := by decide +kernel
theorem dX5_goMinute_161 : decode cX5_goMinute 161 = .ok (.ior, 1) := by decide +kernel
theorem dX5_goMinute_162 : decode cX5_goMinute 162 = .ok (.istore_n 3, 1) := by decide +kernel
theorem dX5_goMinute_163 : decode cX5_goMinute 163 = .ok (.aload_n 1, 1) := by decide +kernel
theorem dX5_goMinute_164 : decode cX5_goMinute 164 = .ok (.iconst 5, 1) := by decide +kernel
theorem dX5_goMinute_165 : decode cX5_goMinute 165 = .ok (.dup2, 1) := by decide +kernel
theorem dX5_goMinute_166 : decode cX5_goMinute 166 = .ok (.iaload, 1) := by decide +kernel
theorem dX5_goMinute_167 : decode cX5_goMinute 167 = .ok (.iconst 1, 1) := by decide +kernel
theorem dX5_goMinute_168 : decode cX5_goMinute 168 = .ok (.isub, 1) := by decide +kernel
theorem dX5_goMinute_169 : decode cX5_goMinute 169 = .ok (.iastore, 1) := by decide +kernel
theorem dX5_goMinute_170 : decode cX5_goMinute 170 = .ok (.iload 4, 2) := by decide +kernel
theorem dX5_goMinute_172 : decode cX5_goMinute 172 = .ok (.iconst 1, 1) := by decide +kernel
theorem dX5_goMinute_173 : decode cX5_goMinute 173 = .ok (.iadd, 1) := by decide +kernel
theorem dX5_goMinute_174 : decode cX5_goMinute 174 = .ok (.istore 6, 2) := by decide +kernel
theorem dX5_goMinute_176 : decode cX5_goMinute 176 = .ok (.iload 6, 2) := by decide +kernel
theorem dX5_goMinute_178 : decode cX5_goMinute 178 = .ok (.aload_n 1, 1) := by decide +kernel
theorem dX5_goMinute_179 : decode cX5_goMinute 179 = .ok (.iconst 5, 1) := by decide +kernel
theorem dX5_goMinute_180 : decode cX5_goMinute 180 = .ok (.iaload, 1) := by decide +kernel
theorem dX5_goMinute_181 : decode cX5_goMinute 181 = .ok (.if_icmp .ge 19, 3) := by decide +kernel
theorem dX5_goMinute_184 : decode cX5_goMinute 184 = .ok (.aload_n 1, 1) := by decide +kernel
theorem dX5_goMinute_185 : decode cX5_goMinute 185 = .ok (.iload 6, 2) := by decide +kernel
theorem dX5_goMinute_187 : decode cX5_goMinute 187 = .ok (.aload_n 1, 1) := by decide +kernel
theorem dX5_goMinute_188 : decode cX5_goMinute 188 = .ok (.iload 6, 2) := by decide +kernel
theorem dX5_goMinute_190 : decode cX5_goMinute 190 = .ok (.iconst 1, 1) := by decide +kernel
theorem dX5_goMinute_191 : decode cX5_goMinute 191 = .ok (.iadd, 1) := by decide +kernel
theorem dX5_goMinute_192 : decode cX5_goMinute 192 = .ok (.iaload, 1) := by decide +kernel
theorem dX5_goMinute_193 : decode cX5_goMinute 193 = .ok (.iastore, 1) := by decide +kernel
theorem dX5_goMinute_194 : decode cX5_goMinute 194 = .ok (.iinc 6 1, 3) := by decide +kernel
theorem dX5_goMinute_197 : decode cX5_goMinute 197 = .ok (.goto (-21), 3) := by decide +kernel
theorem dX5_goMinute_200 : decode cX5_goMinute 200 = .ok (.iinc 4 1, 3) := by decide +kernel
theorem dX5_goMinute_203 : decode cX5_goMinute 203 = .ok (.goto (-116), 3) := by decide +kernel
theorem dX5_goMinute_206 : decode cX5_goMinute 206 = .ok (.aload_n 1, 1) := by decide +kernel
theorem dX5_goMinute_207 : decode cX5_goMinute 207 = .ok (.bipush 12, 2) := by decide +kernel
theorem dX5_goMinute_209 : decode cX5_goMinute 209 = .ok (.dup2, 1) := by decide +kernel
theorem dX5_goMinute_210 : decode cX5_goMinute 210 = .ok (.iaload, 1) := by decide +kernel
theorem dX5_goMinute_211 : decode cX5_goMinute 211 = .ok (.iload_n 3, 1) := by decide +kernel
theorem dX5_goMinute_212 : decode cX5_goMinute 212 = .ok (.ior, 1) := by decide +kernel
theorem dX5_goMinute_213 : decode cX5_goMinute 213 = .ok (.iastore, 1) := by decide +kernel
theorem dX5_goMinute_214 : decode cX5_goMinute 214 = .ok (.aload_n 1, 1) := by decide +kernel
theorem dX5_goMinute_215 : decode cX5_goMinute 215 = .ok (.bipush 11, 2) := by decide +kernel
theorem dX5_goMinute_217 : decode cX5_goMinute 217 = .ok (.dup2, 1) := by decide +kernel
theorem dX5_goMinute_218 : decode cX5_goMinute 218 = .ok (.iaload, 1) := by decide +kernel
theorem dX5_goMinute_219 : decode cX5_goMinute 219 = .ok (.iconst 1, 1) := by decide +kernel
theorem dX5_goMinute_220 : decode cX5_goMinute 220 = .ok (.iadd, 1) := by decide +kernel
theorem dX5_goMinute_221 : decode cX5_goMinute 221 = .ok (.iastore, 1) := by decide +kernel
theorem dX5_goMinute_222 : decode cX5_goMinute 222 = .ok (.iload_n 3, 1) := by decide +kernel
theorem dX5_goMinute_223 : decode cX5_goMinute 223 = .ok (.ireturn, 1) := by decide +kernel
theorem dX5_note_0 : decode cX5_note 0 = .ok (.aload_n 0, 1) := by decide +kernel
theorem dX5_note_1 : decode cX5_note 1 = .ok (.getfield 92, 3) := by decide +kernel
theorem dX5_note_4 : decode cX5_note 4 = .ok (.bipush 14, 2) := by decide +kernel
theorem dX5_note_6 : decode cX5_note 6 = .ok (.if_icmp .ne 43, 3) := by decide +kernel
theorem dX5_note_9 : decode cX5_note 9 = .ok (.iconst 0, 1) := by decide +kernel
theorem dX5_note_10 : decode cX5_note 10 = .ok (.istore_n 1, 1) := by decide +kernel
theorem dX5_note_11 : decode cX5_note 11 = .ok (.iload_n 1, 1) := by decide +kernel
theorem dX5_note_12 : decode cX5_note 12 = .ok (.sipush 169, 3) := by decide +kernel
theorem dX5_note_15 : decode cX5_note 15 = .ok (.if_icmp .ge 24, 3) := by decide +kernel
theorem dX5_note_18 : decode cX5_note 18 = .ok (.aload_n 0, 1) := by decide +kernel
theorem dX5_note_19 : decode cX5_note 19 = .ok (.getfield 38, 3) := by decide +kernel
theorem dX5_note_22 : decode cX5_note 22 = .ok (.iload_n 1, 1) := by decide +kernel
theorem dX5_note_23 : decode cX5_note 23 = .ok (.aload_n 0, 1) := by decide +kernel
theorem dX5_note_24 : decode cX5_note 24 = .ok (.getfield 38, 3) := by decide +kernel
theorem dX5_note_27 : decode cX5_note 27 = .ok (.iload_n 1, 1) := by decide +kernel
theorem dX5_note_28 : decode cX5_note 28 = .ok (.bipush 13, 2) := by decide +kernel
theorem dX5_note_30 : decode cX5_note 30 = .ok (.iadd, 1) := by decide +kernel
theorem dX5_note_31 : decode cX5_note 31 = .ok (.iaload, 1) := by decide +kernel
theorem dX5_note_32 : decode cX5_note 32 = .ok (.iastore, 1) := by decide +kernel
theorem dX5_note_33 : decode cX5_note 33 = .ok (.iinc 1 1, 3) := by decide +kernel
theorem dX5_note_36 : decode cX5_note 36 = .ok (.goto (-25), 3) := by decide +kernel
theorem dX5_note_39 : decode cX5_note 39 = .ok (.aload_n 0, 1) := by decide +kernel
theorem dX5_note_40 : decode cX5_note 40 = .ok (.dup, 1) := by decide +kernel
theorem dX5_note_41 : decode cX5_note 41 = .ok (.getfield 92, 3) := by decide +kernel
theorem dX5_note_44 : decode cX5_note 44 = .ok (.iconst 1, 1) := by decide +kernel
theorem dX5_note_45 : decode cX5_note 45 = .ok (.isub, 1) := by decide +kernel
theorem dX5_note_46 : decode cX5_note 46 = .ok (.putfield 92, 3) := by decide +kernel
theorem dX5_note_49 : decode cX5_note 49 = .ok (.iconst 0, 1) := by decide +kernel
theorem dX5_note_50 : decode cX5_note 50 = .ok (.istore_n 1, 1) := by decide +kernel
theorem dX5_note_51 : decode cX5_note 51 = .ok (.iload_n 1, 1) := by decide +kernel
theorem dX5_note_52 : decode cX5_note 52 = .ok (.bipush 13, 2) := by decide +kernel
theorem dX5_note_54 : decode cX5_note 54 = .ok (.if_icmp .ge 29, 3) := by decide +kernel
theorem dX5_note_57 : decode cX5_note 57 = .ok (.aload_n 0, 1) := by decide +kernel
theorem dX5_note_58 : decode cX5_note 58 = .ok (.getfield 38, 3) := by decide +kernel
theorem dX5_note_61 : decode cX5_note 61 = .ok (.bipush 13, 2) := by decide +kernel
theorem dX5_note_63 : decode cX5_note 63 = .ok (.aload_n 0, 1) := by decide +kernel
theorem dX5_note_64 : decode cX5_note 64 = .ok (.getfield 92, 3) := by decide +kernel
theorem dX5_note_67 : decode cX5_note 67 = .ok (.imul, 1) := by decide +kernel
theorem dX5_note_68 : decode cX5_note 68 = .ok (.iload_n 1, 1) := by decide +kernel
theorem dX5_note_69 : decode cX5_note 69 = .ok (.iadd, 1) := by decide +kernel
theorem dX5_note_70 : decode cX5_note 70 = .ok (.aload_n 0, 1) := by decide +kernel
theorem dX5_note_71 : decode cX5_note 71 = .ok (.getfield 32, 3) := by decide +kernel
theorem dX5_note_74 : decode cX5_note 74 = .ok (.iload_n 1, 1) := by decide +kernel
theorem dX5_note_75 : decode cX5_note 75 = .ok (.iaload, 1) := by decide +kernel
theorem dX5_note_76 : decode cX5_note 76 = .ok (.iastore, 1) := by decide +kernel
theorem dX5_note_77 : decode cX5_note 77 = .ok (.iinc 1 1, 3) := by decide +kernel
theorem dX5_note_80 : decode cX5_note 80 = .ok (.goto (-29), 3) := by decide +kernel
theorem dX5_note_83 : decode cX5_note 83 = .ok (.aload_n 0, 1) := by decide +kernel
theorem dX5_note_84 : decode cX5_note 84 = .ok (.dup, 1) := by decide +kernel
theorem dX5_note_85 : decode cX5_note 85 = .ok (.getfield 92, 3) := by decide +kernel
theorem dX5_note_88 : decode cX5_note 88 = .ok (.iconst 1, 1) := by decide +kernel
theorem dX5_note_89 : decode cX5_note 89 = .ok (.iadd, 1) := by decide +kernel
theorem dX5_note_90 : decode cX5_note 90 = .ok (.putfield 92, 3) := by decide +kernel
theorem dX5_note_93 : decode cX5_note 93 = .ok (.return_, 1) := by decide +kernel
set_option maxRecDepth 20000 in
theorem ggX5_minute_X5_in : GoodIn wsX5_minute wsX5_in := goodIn_r _ [8] (by decide +kernel) (by decide +kernel)
set_option maxRecDepth 20000 in
theorem gX5_minute_X5_in : GoodIn wsX5_minute (va_wsS RX5 63 yX5_in wsX5_in) := goodIn_app (goodIn_of _ (by decide +kernel)) ggX5_minute_X5_in
set_option maxRecDepth 20000 in
theorem ggX5_minute_X5_note : GoodIn wsX5_minute wsX5_note := goodIn_r _ [12, 13, 14, 3, 30, 31, 32, 33, 34, 35, 36, 37, 38, 39, 40, 41, 42, 43, 44, 45, 46, 47, 48, 49, 50, 51, 52, 53, 54, 55, 56, 57] (by decide +kernel) (by decide +kernel)
set_option maxRecDepth 20000 in
theorem gX5_minute_X5_note : GoodIn wsX5_minute (wsV RX5 124 RX5 yX5_note wsX5_note) := goodIn_app (goodIn_of _ (by decide +kernel)) ggX5_minute_X5_note
set_option maxRecDepth 20000 in
theorem ggX5_minute_X5_goMinute : GoodIn wsX5_minute wsX5_goMinute := goodIn_r _ [18, 19, 20, 21, 22, 23, 24, 7, 25, 26, 27, 28, 29, 30, 31, 32, 33, 34, 35, 36, 37, 38, 39, 40, 41, 42, 43, 44, 45, 46, 47, 48, 49, 50, 51, 52, 53, 54, 55, 56, 57] (by decide +kernel) (by decide +kernel)
set_option maxRecDepth 20000 in
theorem gX5_minute_X5_goMinute : GoodIn wsX5_minute (wsV RX5 127 RX5 yX5_goMinute wsX5_goMinute) := goodIn_app (goodIn_of _ (by decide +kernel)) ggX5_minute_X5_goMinute
theorem dX5_minute_0 : decode cX5_minute 0 = .ok (.aload_n 0, 1) := by decide +kernel
theorem dX5_minute_1 : decode cX5_minute 1 = .ok (.iconst 0, 1) := by decide +kernel
theorem dX5_minute_2 : decode cX5_minute 2 = .ok (.putfield 57, 3) := by decide +kernel
theorem dX5_minute_5 : decode cX5_minute 5 = .ok (.iload_n 1, 1) := by decide +kernel
theorem dX5_minute_6 : decode cX5_minute 6 = .ok (.i2l, 1) := by decide +kernel
theorem dX5_minute_7 : decode cX5_minute 7 = .ok (.lconst 0, 1) := by decide +kernel
theorem dX5_minute_8 : decode cX5_minute 8 = .ok (.iconst 1, 1) := by decide +kernel
theorem dX5_minute_9 : decode cX5_minute 9 = .ok (.aload_n 0, 1) := by decide +kernel
theorem dX5_minute_10 : decode cX5_minute 10 = .ok (.getfield 60, 3) := by decide +kernel
theorem dX5_minute_13 : decode cX5_minute 13 = .ok (.ishl, 1) := by decide +kernel
theorem dX5_minute_14 : decode cX5_minute 14 = .ok (.iconst 1, 1) := by decide +kernel
theorem dX5_minute_15 : decode cX5_minute 15 = .ok (.isub, 1) := by decide +kernel
theorem dX5_minute_16 : decode cX5_minute 16 = .ok (.i2l, 1) := by decide +kernel
theorem dX5_minute_17 : decode cX5_minute 17 = .ok (.invokestatic 63, 3) := by decide +kernel
theorem dX5_minute_20 : decode cX5_minute 20 = .ok (.ifCond .ne 6, 3) := by decide +kernel
theorem dX5_minute_23 : decode cX5_minute 23 = .ok (.bipush (-2), 2) := by decide +kernel
theorem dX5_minute_25 : decode cX5_minute 25 = .ok (.ireturn, 1) := by decide +kernel
theorem dX5_minute_26 : decode cX5_minute 26 = .ok (.aload_n 0, 1) := by decide +kernel
theorem dX5_minute_27 : decode cX5_minute 27 = .ok (.getfield 32, 3) := by decide +kernel
theorem dX5_minute_30 : decode cX5_minute 30 = .ok (.bipush 11, 2) := by decide +kernel
theorem dX5_minute_32 : decode cX5_minute 32 = .ok (.iaload, 1) := by decide +kernel
theorem dX5_minute_33 : decode cX5_minute 33 = .ok (.aload_n 0, 1) := by decide +kernel
theorem dX5_minute_34 : decode cX5_minute 34 = .ok (.getfield 13, 3) := by decide +kernel
theorem dX5_minute_37 : decode cX5_minute 37 = .ok (.if_icmp .ne 6, 3) := by decide +kernel
theorem dX5_minute_40 : decode cX5_minute 40 = .ok (.bipush (-3), 2) := by decide +kernel
theorem dX5_minute_42 : decode cX5_minute 42 = .ok (.ireturn, 1) := by decide +kernel
theorem dX5_minute_43 : decode cX5_minute 43 = .ok (.aload_n 0, 1) := by decide +kernel
theorem dX5_minute_44 : decode cX5_minute 44 = .ok (.invokevirtual 124, 3) := by decide +kernel
theorem dX5_minute_47 : decode cX5_minute 47 = .ok (.aload_n 0, 1) := by decide +kernel
theorem dX5_minute_48 : decode cX5_minute 48 = .ok (.aload_n 0, 1) := by decide +kernel
theorem dX5_minute_49 : decode cX5_minute 49 = .ok (.getfield 32, 3) := by decide +kernel
theorem dX5_minute_52 : decode cX5_minute 52 = .ok (.iload_n 1, 1) := by decide +kernel
theorem dX5_minute_53 : decode cX5_minute 53 = .ok (.invokevirtual 127, 3) := by decide +kernel
theorem dX5_minute_56 : decode cX5_minute 56 = .ok (.ireturn, 1) := by decide +kernel
set_option maxRecDepth 20000 in
theorem ggX5_change_X5_in : GoodIn wsX5_change wsX5_in := goodIn_r _ [8] (by decide +kernel) (by decide +kernel)
set_option maxRecDepth 20000 in
theorem gX5_change_X5_in : GoodIn wsX5_change (va_wsS RX5 63 yX5_in wsX5_in) := goodIn_app (goodIn_of _ (by decide +kernel)) ggX5_change_X5_in
set_option maxRecDepth 20000 in
theorem ggX5_change_X5_note : GoodIn wsX5_change wsX5_note := goodIn_r _ [12, 13, 14, 3, 18, 19, 20, 21, 22, 23, 24, 25, 26, 27, 28, 29, 30, 31, 32, 33, 34, 35, 36, 37, 38, 39, 40, 41, 42, 43, 44, 45] (by decide +kernel) (by decide +kernel)
set_option maxRecDepth 20000 in
theorem gX5_change_X5_note : GoodIn wsX5_change (wsV RX5 124 RX5 yX5_note wsX5_note) := goodIn_app (goodIn_of _ (by decide +kernel)) ggX5_change_X5_note
set_option maxRecDepth 20000 in
theorem ggX5_change_X5_figuresOf : GoodIn wsX5_change wsX5_figuresOf := goodIn_r _ [17] (by decide +kernel) (by decide +kernel)
set_option maxRecDepth 20000 in
theorem gX5_change_X5_figuresOf : GoodIn wsX5_change (va_wsS RX5 99 yX5_figuresOf wsX5_figuresOf) := goodIn_app (goodIn_of _ (by decide +kernel)) ggX5_change_X5_figuresOf
theorem dX5_change_0 : decode cX5_change 0 = .ok (.aload_n 0, 1) := by decide +kernel
theorem dX5_change_1 : decode cX5_change 1 = .ok (.iconst 0, 1) := by decide +kernel
theorem dX5_change_2 : decode cX5_change 2 = .ok (.putfield 57, 3) := by decide +kernel
theorem dX5_change_5 : decode cX5_change 5 = .ok (.iload_n 1, 1) := by decide +kernel
theorem dX5_change_6 : decode cX5_change 6 = .ok (.i2l, 1) := by decide +kernel
theorem dX5_change_7 : decode cX5_change 7 = .ok (.lconst 0, 1) := by decide +kernel
theorem dX5_change_8 : decode cX5_change 8 = .ok (.ldc2_w 130, 3) := by decide +kernel
theorem dX5_change_11 : decode cX5_change 11 = .ok (.invokestatic 63, 3) := by decide +kernel
theorem dX5_change_14 : decode cX5_change 14 = .ok (.ifCond .ne 6, 3) := by decide +kernel
theorem dX5_change_17 : decode cX5_change 17 = .ok (.bipush (-2), 2) := by decide +kernel
theorem dX5_change_19 : decode cX5_change 19 = .ok (.ireturn, 1) := by decide +kernel
theorem dX5_change_20 : decode cX5_change 20 = .ok (.iload_n 1, 1) := by decide +kernel
theorem dX5_change_21 : decode cX5_change 21 = .ok (.iconst 1, 1) := by decide +kernel
theorem dX5_change_22 : decode cX5_change 22 = .ok (.iadd, 1) := by decide +kernel
theorem dX5_change_23 : decode cX5_change 23 = .ok (.aload_n 0, 1) := by decide +kernel
theorem dX5_change_24 : decode cX5_change 24 = .ok (.getfield 32, 3) := by decide +kernel
theorem dX5_change_27 : decode cX5_change 27 = .ok (.iconst 5, 1) := by decide +kernel
theorem dX5_change_28 : decode cX5_change 28 = .ok (.iaload, 1) := by decide +kernel
theorem dX5_change_29 : decode cX5_change 29 = .ok (.if_icmp .ge 17, 3) := by decide +kernel
theorem dX5_change_32 : decode cX5_change 32 = .ok (.aload_n 0, 1) := by decide +kernel
theorem dX5_change_33 : decode cX5_change 33 = .ok (.getfield 32, 3) := by decide +kernel
theorem dX5_change_36 : decode cX5_change 36 = .ok (.bipush 11, 2) := by decide +kernel
theorem dX5_change_38 : decode cX5_change 38 = .ok (.iaload, 1) := by decide +kernel
theorem dX5_change_39 : decode cX5_change 39 = .ok (.aload_n 0, 1) := by decide +kernel
theorem dX5_change_40 : decode cX5_change 40 = .ok (.getfield 13, 3) := by decide +kernel
theorem dX5_change_43 : decode cX5_change 43 = .ok (.if_icmp .ne 6, 3) := by decide +kernel
theorem dX5_change_46 : decode cX5_change 46 = .ok (.bipush (-3), 2) := by decide +kernel
theorem dX5_change_48 : decode cX5_change 48 = .ok (.ireturn, 1) := by decide +kernel
theorem dX5_change_49 : decode cX5_change 49 = .ok (.aload_n 0, 1) := by decide +kernel
theorem dX5_change_50 : decode cX5_change 50 = .ok (.invokevirtual 124, 3) := by decide +kernel
theorem dX5_change_53 : decode cX5_change 53 = .ok (.aload_n 0, 1) := by decide +kernel
theorem dX5_change_54 : decode cX5_change 54 = .ok (.getfield 32, 3) := by decide +kernel
theorem dX5_change_57 : decode cX5_change 57 = .ok (.iload_n 1, 1) := by decide +kernel
theorem dX5_change_58 : decode cX5_change 58 = .ok (.iaload, 1) := by decide +kernel
theorem dX5_change_59 : decode cX5_change 59 = .ok (.istore_n 2, 1) := by decide +kernel
theorem dX5_change_60 : decode cX5_change 60 = .ok (.aload_n 0, 1) := by decide +kernel
theorem dX5_change_61 : decode cX5_change 61 = .ok (.getfield 32, 3) := by decide +kernel
theorem dX5_change_64 : decode cX5_change 64 = .ok (.iload_n 1, 1) := by decide +kernel
theorem dX5_change_65 : decode cX5_change 65 = .ok (.aload_n 0, 1) := by decide +kernel
theorem dX5_change_66 : decode cX5_change 66 = .ok (.getfield 32, 3) := by decide +kernel
theorem dX5_change_69 : decode cX5_change 69 = .ok (.iload_n 1, 1) := by decide +kernel
theorem dX5_change_70 : decode cX5_change 70 = .ok (.iconst 1, 1) := by decide +kernel
theorem dX5_change_71 : decode cX5_change 71 = .ok (.iadd, 1) := by decide +kernel
theorem dX5_change_72 : decode cX5_change 72 = .ok (.iaload, 1) := by decide +kernel
theorem dX5_change_73 : decode cX5_change 73 = .ok (.iastore, 1) := by decide +kernel
theorem dX5_change_74 : decode cX5_change 74 = .ok (.aload_n 0, 1) := by decide +kernel
theorem dX5_change_75 : decode cX5_change 75 = .ok (.getfield 32, 3) := by decide +kernel
theorem dX5_change_78 : decode cX5_change 78 = .ok (.iload_n 1, 1) := by decide +kernel
theorem dX5_change_79 : decode cX5_change 79 = .ok (.iconst 1, 1) := by decide +kernel
theorem dX5_change_80 : decode cX5_change 80 = .ok (.iadd, 1) := by decide +kernel
theorem dX5_change_81 : decode cX5_change 81 = .ok (.iload_n 2, 1) := by decide +kernel
theorem dX5_change_82 : decode cX5_change 82 = .ok (.iastore, 1) := by decide +kernel
theorem dX5_change_83 : decode cX5_change 83 = .ok (.aload_n 0, 1) := by decide +kernel
theorem dX5_change_84 : decode cX5_change 84 = .ok (.getfield 32, 3) := by decide +kernel
theorem dX5_change_87 : decode cX5_change 87 = .ok (.bipush 6, 2) := by decide +kernel
theorem dX5_change_89 : decode cX5_change 89 = .ok (.aload_n 0, 1) := by decide +kernel
theorem dX5_change_90 : decode cX5_change 90 = .ok (.getfield 32, 3) := by decide +kernel
theorem dX5_change_93 : decode cX5_change 93 = .ok (.iload_n 1, 1) := by decide +kernel
theorem dX5_change_94 : decode cX5_change 94 = .ok (.iaload, 1) := by decide +kernel
theorem dX5_change_95 : decode cX5_change 95 = .ok (.iadd, 1) := by decide +kernel
theorem dX5_change_96 : decode cX5_change 96 = .ok (.iconst 0, 1) := by decide +kernel
theorem dX5_change_97 : decode cX5_change 97 = .ok (.iastore, 1) := by decide +kernel
theorem dX5_change_98 : decode cX5_change 98 = .ok (.aload_n 0, 1) := by decide +kernel
theorem dX5_change_99 : decode cX5_change 99 = .ok (.getfield 32, 3) := by decide +kernel
theorem dX5_change_102 : decode cX5_change 102 = .ok (.bipush 6, 2) := by decide +kernel
theorem dX5_change_104 : decode cX5_change 104 = .ok (.iload_n 2, 1) := by decide +kernel
theorem dX5_change_105 : decode cX5_change 105 = .ok (.iadd, 1) := by decide +kernel
theorem dX5_change_106 : decode cX5_change 106 = .ok (.iconst 0, 1) := by decide +kernel
theorem dX5_change_107 : decode cX5_change 107 = .ok (.iastore, 1) := by decide +kernel
theorem dX5_change_108 : decode cX5_change 108 = .ok (.aload_n 0, 1) := by decide +kernel
theorem dX5_change_109 : decode cX5_change 109 = .ok (.getfield 32, 3) := by decide +kernel
theorem dX5_change_112 : decode cX5_change 112 = .ok (.invokestatic 99, 3) := by decide +kernel
theorem dX5_change_115 : decode cX5_change 115 = .ok (.ireturn, 1) := by decide +kernel
set_option maxRecDepth 20000 in
theorem ggX5_rest_X5_note : GoodIn wsX5_rest wsX5_note := goodIn_r _ [8, 9, 10, 2, 11, 12, 13, 14, 15, 16, 17, 18, 19, 20, 21, 22, 23, 24, 25, 26, 27, 28, 29, 30, 31, 32, 33, 34, 35, 36, 37, 38] (by decide +kernel) (by decide +kernel)
set_option maxRecDepth 20000 in
theorem gX5_rest_X5_note : GoodIn wsX5_rest (wsV RX5 124 RX5 yX5_note wsX5_note) := goodIn_app (goodIn_of _ (by decide +kernel)) ggX5_rest_X5_note
theorem dX5_rest_0 : decode cX5_rest 0 = .ok (.aload_n 0, 1) := by decide +kernel
theorem dX5_rest_1 : decode cX5_rest 1 = .ok (.iconst 0, 1) := by decide +kernel
theorem dX5_rest_2 : decode cX5_rest 2 = .ok (.putfield 57, 3) := by decide +kernel
theorem dX5_rest_5 : decode cX5_rest 5 = .ok (.aload_n 0, 1) := by decide +kernel
theorem dX5_rest_6 : decode cX5_rest 6 = .ok (.getfield 32, 3) := by decide +kernel
theorem dX5_rest_9 : decode cX5_rest 9 = .ok (.bipush 11, 2) := by decide +kernel
theorem dX5_rest_11 : decode cX5_rest 11 = .ok (.iaload, 1) := by decide +kernel
theorem dX5_rest_12 : decode cX5_rest 12 = .ok (.aload_n 0, 1) := by decide +kernel
theorem dX5_rest_13 : decode cX5_rest 13 = .ok (.getfield 13, 3) := by decide +kernel
theorem dX5_rest_16 : decode cX5_rest 16 = .ok (.if_icmp .ne 6, 3) := by decide +kernel
theorem dX5_rest_19 : decode cX5_rest 19 = .ok (.bipush (-3), 2) := by decide +kernel
theorem dX5_rest_21 : decode cX5_rest 21 = .ok (.ireturn, 1) := by decide +kernel
theorem dX5_rest_22 : decode cX5_rest 22 = .ok (.aload_n 0, 1) := by decide +kernel
theorem dX5_rest_23 : decode cX5_rest 23 = .ok (.invokevirtual 124, 3) := by decide +kernel
theorem dX5_rest_26 : decode cX5_rest 26 = .ok (.iconst 0, 1) := by decide +kernel
theorem dX5_rest_27 : decode cX5_rest 27 = .ok (.istore_n 1, 1) := by decide +kernel
theorem dX5_rest_28 : decode cX5_rest 28 = .ok (.iconst 0, 1) := by decide +kernel
theorem dX5_rest_29 : decode cX5_rest 29 = .ok (.istore_n 2, 1) := by decide +kernel
theorem dX5_rest_30 : decode cX5_rest 30 = .ok (.iload_n 2, 1) := by decide +kernel
theorem dX5_rest_31 : decode cX5_rest 31 = .ok (.aload_n 0, 1) := by decide +kernel
theorem dX5_rest_32 : decode cX5_rest 32 = .ok (.getfield 32, 3) := by decide +kernel
theorem dX5_rest_35 : decode cX5_rest 35 = .ok (.iconst 5, 1) := by decide +kernel
theorem dX5_rest_36 : decode cX5_rest 36 = .ok (.iaload, 1) := by decide +kernel
theorem dX5_rest_37 : decode cX5_rest 37 = .ok (.if_icmp .ge 49, 3) := by decide +kernel
theorem dX5_rest_40 : decode cX5_rest 40 = .ok (.iload_n 1, 1) := by decide +kernel
theorem dX5_rest_41 : decode cX5_rest 41 = .ok (.aload_n 0, 1) := by decide +kernel
theorem dX5_rest_42 : decode cX5_rest 42 = .ok (.getfield 32, 3) := by decide +kernel
theorem dX5_rest_45 : decode cX5_rest 45 = .ok (.bipush 6, 2) := by decide +kernel
theorem dX5_rest_47 : decode cX5_rest 47 = .ok (.aload_n 0, 1) := by decide +kernel
theorem dX5_rest_48 : decode cX5_rest 48 = .ok (.getfield 32, 3) := by decide +kernel
theorem dX5_rest_51 : decode cX5_rest 51 = .ok (.iload_n 2, 1) := by decide +kernel
theorem dX5_rest_52 : decode cX5_rest 52 = .ok (.iaload, 1) := by decide +kernel
theorem dX5_rest_53 : decode cX5_rest 53 = .ok (.iadd, 1) := by decide +kernel
theorem dX5_rest_54 : decode cX5_rest 54 = .ok (.iaload, 1) := by decide +kernel
theorem dX5_rest_55 : decode cX5_rest 55 = .ok (.ifCond .le 7, 3) := by decide +kernel
theorem dX5_rest_58 : decode cX5_rest 58 = .ok (.iconst 1, 1) := by decide +kernel
theorem dX5_rest_59 : decode cX5_rest 59 = .ok (.goto 4, 3) := by decide +kernel
theorem dX5_rest_62 : decode cX5_rest 62 = .ok (.iconst 0, 1) := by decide +kernel
theorem dX5_rest_63 : decode cX5_rest 63 = .ok (.iadd, 1) := by decide +kernel
theorem dX5_rest_64 : decode cX5_rest 64 = .ok (.istore_n 1, 1) := by decide +kernel
theorem dX5_rest_65 : decode cX5_rest 65 = .ok (.aload_n 0, 1) := by decide +kernel
theorem dX5_rest_66 : decode cX5_rest 66 = .ok (.getfield 32, 3) := by decide +kernel
theorem dX5_rest_69 : decode cX5_rest 69 = .ok (.bipush 6, 2) := by decide +kernel
theorem dX5_rest_71 : decode cX5_rest 71 = .ok (.aload_n 0, 1) := by decide +kernel
theorem dX5_rest_72 : decode cX5_rest 72 = .ok (.getfield 32, 3) := by decide +kernel
theorem dX5_rest_75 : decode cX5_rest 75 = .ok (.iload_n 2, 1) := by decide +kernel
theorem dX5_rest_76 : decode cX5_rest 76 = .ok (.iaload, 1) := by decide +kernel
theorem dX5_rest_77 : decode cX5_rest 77 = .ok (.iadd, 1) := by decide +kernel
theorem dX5_rest_78 : decode cX5_rest 78 = .ok (.iconst 0, 1) := by decide +kernel
theorem dX5_rest_79 : decode cX5_rest 79 = .ok (.iastore, 1) := by decide +kernel
theorem dX5_rest_80 : decode cX5_rest 80 = .ok (.iinc 2 1, 3) := by decide +kernel
theorem dX5_rest_83 : decode cX5_rest 83 = .ok (.goto (-53), 3) := by decide +kernel
theorem dX5_rest_86 : decode cX5_rest 86 = .ok (.iload_n 1, 1) := by decide +kernel
theorem dX5_rest_87 : decode cX5_rest 87 = .ok (.ireturn, 1) := by decide +kernel
theorem dX5_undo_0 : decode cX5_undo 0 = .ok (.aload_n 0, 1) := by decide +kernel
theorem dX5_undo_1 : decode cX5_undo 1 = .ok (.iconst 0, 1) := by decide +kernel
theorem dX5_undo_2 : decode cX5_undo 2 = .ok (.putfield 57, 3) := by decide +kernel
theorem dX5_undo_5 : decode cX5_undo 5 = .ok (.aload_n 0, 1) := by decide +kernel
theorem dX5_undo_6 : decode cX5_undo 6 = .ok (.getfield 92, 3) := by decide +kernel
theorem dX5_undo_9 : decode cX5_undo 9 = .ok (.ifCond .ne 6, 3) := by decide +kernel
theorem dX5_undo_12 : decode cX5_undo 12 = .ok (.bipush (-3), 2) := by decide +kernel
theorem dX5_undo_14 : decode cX5_undo 14 = .ok (.ireturn, 1) := by decide +kernel
theorem dX5_undo_15 : decode cX5_undo 15 = .ok (.aload_n 0, 1) := by decide +kernel
theorem dX5_undo_16 : decode cX5_undo 16 = .ok (.dup, 1) := by decide +kernel
theorem dX5_undo_17 : decode cX5_undo 17 = .ok (.getfield 92, 3) := by decide +kernel
theorem dX5_undo_20 : decode cX5_undo 20 = .ok (.iconst 1, 1) := by decide +kernel
theorem dX5_undo_21 : decode cX5_undo 21 = .ok (.isub, 1) := by decide +kernel
theorem dX5_undo_22 : decode cX5_undo 22 = .ok (.putfield 92, 3) := by decide +kernel
theorem dX5_undo_25 : decode cX5_undo 25 = .ok (.iconst 0, 1) := by decide +kernel
theorem dX5_undo_26 : decode cX5_undo 26 = .ok (.istore_n 1, 1) := by decide +kernel
theorem dX5_undo_27 : decode cX5_undo 27 = .ok (.iload_n 1, 1) := by decide +kernel
theorem dX5_undo_28 : decode cX5_undo 28 = .ok (.bipush 13, 2) := by decide +kernel
theorem dX5_undo_30 : decode cX5_undo 30 = .ok (.if_icmp .ge 29, 3) := by decide +kernel
theorem dX5_undo_33 : decode cX5_undo 33 = .ok (.aload_n 0, 1) := by decide +kernel
theorem dX5_undo_34 : decode cX5_undo 34 = .ok (.getfield 32, 3) := by decide +kernel
theorem dX5_undo_37 : decode cX5_undo 37 = .ok (.iload_n 1, 1) := by decide +kernel
theorem dX5_undo_38 : decode cX5_undo 38 = .ok (.aload_n 0, 1) := by decide +kernel
theorem dX5_undo_39 : decode cX5_undo 39 = .ok (.getfield 38, 3) := by decide +kernel
theorem dX5_undo_42 : decode cX5_undo 42 = .ok (.bipush 13, 2) := by decide +kernel
theorem dX5_undo_44 : decode cX5_undo 44 = .ok (.aload_n 0, 1) := by decide +kernel
theorem dX5_undo_45 : decode cX5_undo 45 = .ok (.getfield 92, 3) := by decide +kernel
theorem dX5_undo_48 : decode cX5_undo 48 = .ok (.imul, 1) := by decide +kernel
theorem dX5_undo_49 : decode cX5_undo 49 = .ok (.iload_n 1, 1) := by decide +kernel
theorem dX5_undo_50 : decode cX5_undo 50 = .ok (.iadd, 1) := by decide +kernel
theorem dX5_undo_51 : decode cX5_undo 51 = .ok (.iaload, 1) := by decide +kernel
theorem dX5_undo_52 : decode cX5_undo 52 = .ok (.iastore, 1) := by decide +kernel
theorem dX5_undo_53 : decode cX5_undo 53 = .ok (.iinc 1 1, 3) := by decide +kernel
theorem dX5_undo_56 : decode cX5_undo 56 = .ok (.goto (-29), 3) := by decide +kernel
theorem dX5_undo_59 : decode cX5_undo 59 = .ok (.aload_n 0, 1) := by decide +kernel
theorem dX5_undo_60 : decode cX5_undo 60 = .ok (.getfield 92, 3) := by decide +kernel
theorem dX5_undo_63 : decode cX5_undo 63 = .ok (.ireturn, 1) := by decide +kernel
theorem dX5_hundred_0 : decode cX5_hundred 0 = .ok (.lconst 1, 1) := by decide +kernel
theorem dX5_hundred_1 : decode cX5_hundred 1 = .ok (.lstore_n 1, 1) := by decide +kernel
theorem dX5_hundred_2 : decode cX5_hundred 2 = .ok (.iconst 0, 1) := by decide +kernel
theorem dX5_hundred_3 : decode cX5_hundred 3 = .ok (.istore_n 3, 1) := by decide +kernel
theorem dX5_hundred_4 : decode cX5_hundred 4 = .ok (.iload_n 3, 1) := by decide +kernel
theorem dX5_hundred_5 : decode cX5_hundred 5 = .ok (.iload_n 0, 1) := by decide +kernel
theorem dX5_hundred_6 : decode cX5_hundred 6 = .ok (.if_icmp .ge 15, 3) := by decide +kernel
theorem dX5_hundred_9 : decode cX5_hundred 9 = .ok (.lload_n 1, 1) := by decide +kernel
theorem dX5_hundred_10 : decode cX5_hundred 10 = .ok (.ldc2_w 132, 3) := by decide +kernel
theorem dX5_hundred_13 : decode cX5_hundred 13 = .ok (.lmul, 1) := by decide +kernel
theorem dX5_hundred_14 : decode cX5_hundred 14 = .ok (.lstore_n 1, 1) := by decide +kernel
theorem dX5_hundred_15 : decode cX5_hundred 15 = .ok (.iinc 3 1, 3) := by decide +kernel
theorem dX5_hundred_18 : decode cX5_hundred 18 = .ok (.goto (-14), 3) := by decide +kernel
theorem dX5_hundred_21 : decode cX5_hundred 21 = .ok (.lload_n 1, 1) := by decide +kernel
theorem dX5_hundred_22 : decode cX5_hundred 22 = .ok (.lreturn, 1) := by decide +kernel
set_option maxRecDepth 20000 in
theorem ggX5_treadsOf_X5_hundred : GoodIn wsX5_treadsOf wsX5_hundred := goodIn_r _ [5, 1] (by decide +kernel) (by decide +kernel)
set_option maxRecDepth 20000 in
theorem gX5_treadsOf_X5_hundred : GoodIn wsX5_treadsOf (va_wsS RX5 134 yX5_hundred wsX5_hundred) := goodIn_app (goodIn_of _ (by decide +kernel)) ggX5_treadsOf_X5_hundred
theorem dX5_treadsOf_0 : decode cX5_treadsOf 0 = .ok (.lload_n 1, 1) := by decide +kernel
theorem dX5_treadsOf_1 : decode cX5_treadsOf 1 = .ok (.iload_n 0, 1) := by decide +kernel
theorem dX5_treadsOf_2 : decode cX5_treadsOf 2 = .ok (.iconst 1, 1) := by decide +kernel
theorem dX5_treadsOf_3 : decode cX5_treadsOf 3 = .ok (.isub, 1) := by decide +kernel
theorem dX5_treadsOf_4 : decode cX5_treadsOf 4 = .ok (.iload_n 3, 1) := by decide +kernel
theorem dX5_treadsOf_5 : decode cX5_treadsOf 5 = .ok (.isub, 1) := by decide +kernel
theorem dX5_treadsOf_6 : decode cX5_treadsOf 6 = .ok (.invokestatic 134, 3) := by decide +kernel
theorem dX5_treadsOf_9 : decode cX5_treadsOf 9 = .ok (.ldiv, 1) := by decide +kernel
theorem dX5_treadsOf_10 : decode cX5_treadsOf 10 = .ok (.ldc2_w 132, 3) := by decide +kernel
theorem dX5_treadsOf_13 : decode cX5_treadsOf 13 = .ok (.lrem, 1) := by decide +kernel
theorem dX5_treadsOf_14 : decode cX5_treadsOf 14 = .ok (.l2i, 1) := by decide +kernel
theorem dX5_treadsOf_15 : decode cX5_treadsOf 15 = .ok (.ireturn, 1) := by decide +kernel
set_option maxRecDepth 20000 in
theorem ggX5_noSong_X5_in : GoodIn wsX5_noSong wsX5_in := goodIn_r _ [5] (by decide +kernel) (by decide +kernel)
set_option maxRecDepth 20000 in
theorem gX5_noSong_X5_in : GoodIn wsX5_noSong (va_wsS RX5 63 yX5_in wsX5_in) := goodIn_app (goodIn_of _ (by decide +kernel)) ggX5_noSong_X5_in
set_option maxRecDepth 20000 in
theorem ggX5_noSong_X5_hundred : GoodIn wsX5_noSong wsX5_hundred := goodIn_r _ [8, 9] (by decide +kernel) (by decide +kernel)
set_option maxRecDepth 20000 in
theorem gX5_noSong_X5_hundred : GoodIn wsX5_noSong (va_wsS RX5 134 yX5_hundred wsX5_hundred) := goodIn_app (goodIn_of _ (by decide +kernel)) ggX5_noSong_X5_hundred
set_option maxRecDepth 20000 in
theorem ggX5_noSong_X5_treadsOf : GoodIn wsX5_noSong wsX5_treadsOf := goodIn_r _ [12, 9, 6, 7, 4, 8] (by decide +kernel) (by decide +kernel)
set_option maxRecDepth 20000 in
theorem gX5_noSong_X5_treadsOf : GoodIn wsX5_noSong (va_wsS RX5 140 yX5_treadsOf wsX5_treadsOf) := goodIn_app (goodIn_of _ (by decide +kernel)) ggX5_noSong_X5_treadsOf
theorem dX5_noSong_0 : decode cX5_noSong 0 = .ok (.iload_n 0, 1) := by decide +kernel
theorem dX5_noSong_1 : decode cX5_noSong 1 = .ok (.i2l, 1) := by decide +kernel
theorem dX5_noSong_2 : decode cX5_noSong 2 = .ok (.lconst 1, 1) := by decide +kernel
theorem dX5_noSong_3 : decode cX5_noSong 3 = .ok (.ldc2_w 138, 3) := by decide +kernel
theorem dX5_noSong_6 : decode cX5_noSong 6 = .ok (.invokestatic 63, 3) := by decide +kernel
theorem dX5_noSong_9 : decode cX5_noSong 9 = .ok (.ifCond .eq 17, 3) := by decide +kernel
theorem dX5_noSong_12 : decode cX5_noSong 12 = .ok (.lload_n 1, 1) := by decide +kernel
theorem dX5_noSong_13 : decode cX5_noSong 13 = .ok (.lconst 0, 1) := by decide +kernel
theorem dX5_noSong_14 : decode cX5_noSong 14 = .ok (.iload_n 0, 1) := by decide +kernel
theorem dX5_noSong_15 : decode cX5_noSong 15 = .ok (.invokestatic 134, 3) := by decide +kernel
theorem dX5_noSong_18 : decode cX5_noSong 18 = .ok (.lconst 1, 1) := by decide +kernel
theorem dX5_noSong_19 : decode cX5_noSong 19 = .ok (.lsub, 1) := by decide +kernel
theorem dX5_noSong_20 : decode cX5_noSong 20 = .ok (.invokestatic 63, 3) := by decide +kernel
theorem dX5_noSong_23 : decode cX5_noSong 23 = .ok (.ifCond .ne 5, 3) := by decide +kernel
theorem dX5_noSong_26 : decode cX5_noSong 26 = .ok (.iconst 1, 1) := by decide +kernel
theorem dX5_noSong_27 : decode cX5_noSong 27 = .ok (.ireturn, 1) := by decide +kernel
theorem dX5_noSong_28 : decode cX5_noSong 28 = .ok (.iconst 1, 1) := by decide +kernel
theorem dX5_noSong_29 : decode cX5_noSong 29 = .ok (.istore_n 3, 1) := by decide +kernel
theorem dX5_noSong_30 : decode cX5_noSong 30 = .ok (.iconst 0, 1) := by decide +kernel
theorem dX5_noSong_31 : decode cX5_noSong 31 = .ok (.istore 4, 2) := by decide +kernel
theorem dX5_noSong_33 : decode cX5_noSong 33 = .ok (.iload 4, 2) := by decide +kernel
theorem dX5_noSong_35 : decode cX5_noSong 35 = .ok (.iload_n 0, 1) := by decide +kernel
theorem dX5_noSong_36 : decode cX5_noSong 36 = .ok (.if_icmp .ge 31, 3) := by decide +kernel
theorem dX5_noSong_39 : decode cX5_noSong 39 = .ok (.iload_n 3, 1) := by decide +kernel
theorem dX5_noSong_40 : decode cX5_noSong 40 = .ok (.ifCond .eq 19, 3) := by decide +kernel
theorem dX5_noSong_43 : decode cX5_noSong 43 = .ok (.iload_n 0, 1) := by decide +kernel
theorem dX5_noSong_44 : decode cX5_noSong 44 = .ok (.lload_n 1, 1) := by decide +kernel
theorem dX5_noSong_45 : decode cX5_noSong 45 = .ok (.iload 4, 2) := by decide +kernel
theorem dX5_noSong_47 : decode cX5_noSong 47 = .ok (.invokestatic 140, 3) := by decide +kernel
theorem dX5_noSong_50 : decode cX5_noSong 50 = .ok (.bipush 31, 2) := by decide +kernel
theorem dX5_noSong_52 : decode cX5_noSong 52 = .ok (.if_icmp .gt 7, 3) := by decide +kernel
theorem dX5_noSong_55 : decode cX5_noSong 55 = .ok (.iconst 1, 1) := by decide +kernel
theorem dX5_noSong_56 : decode cX5_noSong 56 = .ok (.goto 4, 3) := by decide +kernel
theorem dX5_noSong_59 : decode cX5_noSong 59 = .ok (.iconst 0, 1) := by decide +kernel
theorem dX5_noSong_60 : decode cX5_noSong 60 = .ok (.istore_n 3, 1) := by decide +kernel
theorem dX5_noSong_61 : decode cX5_noSong 61 = .ok (.iinc 4 1, 3) := by decide +kernel
theorem dX5_noSong_64 : decode cX5_noSong 64 = .ok (.goto (-31), 3) := by decide +kernel
theorem dX5_noSong_67 : decode cX5_noSong 67 = .ok (.iload_n 3, 1) := by decide +kernel
theorem dX5_noSong_68 : decode cX5_noSong 68 = .ok (.ifCond .ne 7, 3) := by decide +kernel
theorem dX5_noSong_71 : decode cX5_noSong 71 = .ok (.iconst 1, 1) := by decide +kernel
theorem dX5_noSong_72 : decode cX5_noSong 72 = .ok (.goto 4, 3) := by decide +kernel
theorem dX5_noSong_75 : decode cX5_noSong 75 = .ok (.iconst 0, 1) := by decide +kernel
theorem dX5_noSong_76 : decode cX5_noSong 76 = .ok (.ireturn, 1) := by decide +kernel
theorem dX5_begin_0 : decode cX5_begin 0 = .ok (.iconst 0, 1) := by decide +kernel
theorem dX5_begin_1 : decode cX5_begin 1 = .ok (.istore_n 1, 1) := by decide +kernel
theorem dX5_begin_2 : decode cX5_begin 2 = .ok (.iload_n 1, 1) := by decide +kernel
theorem dX5_begin_3 : decode cX5_begin 3 = .ok (.bipush 13, 2) := by decide +kernel
theorem dX5_begin_5 : decode cX5_begin 5 = .ok (.if_icmp .ge 21, 3) := by decide +kernel
theorem dX5_begin_8 : decode cX5_begin 8 = .ok (.aload_n 0, 1) := by decide +kernel
theorem dX5_begin_9 : decode cX5_begin 9 = .ok (.getfield 35, 3) := by decide +kernel
theorem dX5_begin_12 : decode cX5_begin 12 = .ok (.iload_n 1, 1) := by decide +kernel
theorem dX5_begin_13 : decode cX5_begin 13 = .ok (.aload_n 0, 1) := by decide +kernel
theorem dX5_begin_14 : decode cX5_begin 14 = .ok (.getfield 32, 3) := by decide +kernel
theorem dX5_begin_17 : decode cX5_begin 17 = .ok (.iload_n 1, 1) := by decide +kernel
theorem dX5_begin_18 : decode cX5_begin 18 = .ok (.iaload, 1) := by decide +kernel
theorem dX5_begin_19 : decode cX5_begin 19 = .ok (.iastore, 1) := by decide +kernel
theorem dX5_begin_20 : decode cX5_begin 20 = .ok (.iinc 1 1, 3) := by decide +kernel
theorem dX5_begin_23 : decode cX5_begin 23 = .ok (.goto (-21), 3) := by decide +kernel
theorem dX5_begin_26 : decode cX5_begin 26 = .ok (.return_, 1) := by decide +kernel
set_option maxRecDepth 20000 in
theorem ggX5_sing_X5_treadsOf : GoodIn wsX5_sing wsX5_treadsOf := goodIn_r _ [6, 7, 8, 9, 5, 10] (by decide +kernel) (by decide +kernel)
set_option maxRecDepth 20000 in
theorem gX5_sing_X5_treadsOf : GoodIn wsX5_sing (va_wsS RX5 140 yX5_treadsOf wsX5_treadsOf) := goodIn_app (goodIn_of _ (by decide +kernel)) ggX5_sing_X5_treadsOf
set_option maxRecDepth 20000 in
theorem ggX5_sing_X5_goMinute : GoodIn wsX5_sing wsX5_goMinute := goodIn_r _ [14, 15, 16, 17, 18, 19, 20, 5, 21, 22, 23, 24, 25, 26, 27, 28, 29, 30, 31, 32, 33, 34, 35, 36, 37, 38, 39, 40, 41, 42, 43, 44, 45, 46, 47, 48, 49, 50, 51, 52, 53] (by decide +kernel) (by decide +kernel)
set_option maxRecDepth 20000 in
theorem gX5_sing_X5_goMinute : GoodIn wsX5_sing (wsV RX5 127 RX5 yX5_goMinute wsX5_goMinute) := goodIn_app (goodIn_of _ (by decide +kernel)) ggX5_sing_X5_goMinute
theorem dX5_sing_0 : decode cX5_sing 0 = .ok (.bipush (-9), 2) := by decide +kernel
theorem dX5_sing_2 : decode cX5_sing 2 = .ok (.istore 4, 2) := by decide +kernel
theorem dX5_sing_4 : decode cX5_sing 4 = .ok (.iconst 0, 1) := by decide +kernel
theorem dX5_sing_5 : decode cX5_sing 5 = .ok (.istore 5, 2) := by decide +kernel
theorem dX5_sing_7 : decode cX5_sing 7 = .ok (.iload 5, 2) := by decide +kernel
theorem dX5_sing_9 : decode cX5_sing 9 = .ok (.iload_n 1, 1) := by decide +kernel
theorem dX5_sing_10 : decode cX5_sing 10 = .ok (.if_icmp .ge 61, 3) := by decide +kernel
theorem dX5_sing_13 : decode cX5_sing 13 = .ok (.aload_n 0, 1) := by decide +kernel
theorem dX5_sing_14 : decode cX5_sing 14 = .ok (.getfield 35, 3) := by decide +kernel
theorem dX5_sing_17 : decode cX5_sing 17 = .ok (.bipush 11, 2) := by decide +kernel
theorem dX5_sing_19 : decode cX5_sing 19 = .ok (.iaload, 1) := by decide +kernel
theorem dX5_sing_20 : decode cX5_sing 20 = .ok (.aload_n 0, 1) := by decide +kernel
theorem dX5_sing_21 : decode cX5_sing 21 = .ok (.getfield 13, 3) := by decide +kernel
theorem dX5_sing_24 : decode cX5_sing 24 = .ok (.if_icmp .ge 47, 3) := by decide +kernel
theorem dX5_sing_27 : decode cX5_sing 27 = .ok (.aload_n 0, 1) := by decide +kernel
theorem dX5_sing_28 : decode cX5_sing 28 = .ok (.aload_n 0, 1) := by decide +kernel
theorem dX5_sing_29 : decode cX5_sing 29 = .ok (.getfield 35, 3) := by decide +kernel
theorem dX5_sing_32 : decode cX5_sing 32 = .ok (.iload_n 1, 1) := by decide +kernel
theorem dX5_sing_33 : decode cX5_sing 33 = .ok (.lload_n 2, 1) := by decide +kernel
theorem dX5_sing_34 : decode cX5_sing 34 = .ok (.iload 5, 2) := by decide +kernel
theorem dX5_sing_36 : decode cX5_sing 36 = .ok (.invokestatic 140, 3) := by decide +kernel
theorem dX5_sing_39 : decode cX5_sing 39 = .ok (.invokevirtual 127, 3) := by decide +kernel
theorem dX5_sing_42 : decode cX5_sing 42 = .ok (.istore 6, 2) := by decide +kernel
theorem dX5_sing_44 : decode cX5_sing 44 = .ok (.iload 6, 2) := by decide +kernel
theorem dX5_sing_46 : decode cX5_sing 46 = .ok (.ifCond .eq 15, 3) := by decide +kernel
theorem dX5_sing_49 : decode cX5_sing 49 = .ok (.iload 4, 2) := by decide +kernel
theorem dX5_sing_51 : decode cX5_sing 51 = .ok (.bipush (-9), 2) := by decide +kernel
theorem dX5_sing_53 : decode cX5_sing 53 = .ok (.if_icmp .ne 8, 3) := by decide +kernel
theorem dX5_sing_56 : decode cX5_sing 56 = .ok (.iload 5, 2) := by decide +kernel
theorem dX5_sing_58 : decode cX5_sing 58 = .ok (.goto 5, 3) := by decide +kernel
theorem dX5_sing_61 : decode cX5_sing 61 = .ok (.iload 4, 2) := by decide +kernel
theorem dX5_sing_63 : decode cX5_sing 63 = .ok (.istore 4, 2) := by decide +kernel
theorem dX5_sing_65 : decode cX5_sing 65 = .ok (.iinc 5 1, 3) := by decide +kernel
theorem dX5_sing_68 : decode cX5_sing 68 = .ok (.goto (-61), 3) := by decide +kernel
theorem dX5_sing_71 : decode cX5_sing 71 = .ok (.iload 4, 2) := by decide +kernel
theorem dX5_sing_73 : decode cX5_sing 73 = .ok (.ireturn, 1) := by decide +kernel
set_option maxRecDepth 20000 in
theorem ggX5_left_X5_noSong : GoodIn wsX5_left wsX5_noSong := goodIn_r _ [6, 7, 8, 9, 5, 10, 11, 12, 13, 14, 15, 16, 17] (by decide +kernel) (by decide +kernel)
set_option maxRecDepth 20000 in
theorem gX5_left_X5_noSong : GoodIn wsX5_left (va_wsS RX5 144 yX5_noSong wsX5_noSong) := goodIn_app (goodIn_of _ (by decide +kernel)) ggX5_left_X5_noSong
set_option maxRecDepth 20000 in
theorem ggX5_left_X5_begin : GoodIn wsX5_left wsX5_begin := goodIn_r _ [21, 2, 22, 46, 47, 48, 49, 50, 51, 52, 53, 54, 55, 56, 57, 58, 59, 60, 61, 62, 63, 64, 65, 66, 67, 68, 69, 70, 71, 72, 73] (by decide +kernel) (by decide +kernel)
set_option maxRecDepth 20000 in
theorem gX5_left_X5_begin : GoodIn wsX5_left (wsV RX5 148 RX5 yX5_begin wsX5_begin) := goodIn_app (goodIn_of _ (by decide +kernel)) ggX5_left_X5_begin
set_option maxRecDepth 20000 in
theorem ggX5_left_X5_sing : GoodIn wsX5_left wsX5_sing := goodIn_r _ [26, 2, 27, 15, 16, 5, 17, 14, 11, 12, 13, 28, 29, 30, 31, 32, 33, 34, 35, 36, 37, 38, 39, 40, 41, 42, 46, 47, 48, 49, 50, 51, 52, 53, 54, 55, 56, 57, 58, 59, 60, 61, 62, 63, 64, 65, 66, 67, 68, 69, 70, 71, 72, 73] (by decide +kernel) (by decide +kernel)
set_option maxRecDepth 20000 in
theorem gX5_left_X5_sing : GoodIn wsX5_left (wsV RX5 151 RX5 yX5_sing wsX5_sing) := goodIn_app (goodIn_of _ (by decide +kernel)) ggX5_left_X5_sing
set_option maxRecDepth 20000 in
theorem ggX5_left_X5_rowOf : GoodIn wsX5_left wsX5_rowOf := goodIn_r _ [45] (by decide +kernel) (by decide +kernel)
set_option maxRecDepth 20000 in
theorem gX5_left_X5_rowOf : GoodIn wsX5_left (va_wsS RX5 95 yX5_rowOf wsX5_rowOf) := goodIn_app (goodIn_of _ (by decide +kernel)) ggX5_left_X5_rowOf
theorem dX5_left_0 : decode cX5_left 0 = .ok (.aload_n 0, 1) := by decide +kernel
theorem dX5_left_1 : decode cX5_left 1 = .ok (.iconst 0, 1) := by decide +kernel
theorem dX5_left_2 : decode cX5_left 2 = .ok (.putfield 57, 3) := by decide +kernel
theorem dX5_left_5 : decode cX5_left 5 = .ok (.iload_n 1, 1) := by decide +kernel
theorem dX5_left_6 : decode cX5_left 6 = .ok (.lload_n 2, 1) := by decide +kernel
theorem dX5_left_7 : decode cX5_left 7 = .ok (.invokestatic 144, 3) := by decide +kernel
theorem dX5_left_10 : decode cX5_left 10 = .ok (.ifCond .eq 6, 3) := by decide +kernel
theorem dX5_left_13 : decode cX5_left 13 = .ok (.bipush (-2), 2) := by decide +kernel
theorem dX5_left_15 : decode cX5_left 15 = .ok (.ireturn, 1) := by decide +kernel
theorem dX5_left_16 : decode cX5_left 16 = .ok (.aload_n 0, 1) := by decide +kernel
theorem dX5_left_17 : decode cX5_left 17 = .ok (.invokevirtual 148, 3) := by decide +kernel
theorem dX5_left_20 : decode cX5_left 20 = .ok (.aload_n 0, 1) := by decide +kernel
theorem dX5_left_21 : decode cX5_left 21 = .ok (.iload_n 1, 1) := by decide +kernel
theorem dX5_left_22 : decode cX5_left 22 = .ok (.lload_n 2, 1) := by decide +kernel
theorem dX5_left_23 : decode cX5_left 23 = .ok (.invokevirtual 151, 3) := by decide +kernel
theorem dX5_left_26 : decode cX5_left 26 = .ok (.pop, 1) := by decide +kernel
theorem dX5_left_27 : decode cX5_left 27 = .ok (.aload_n 0, 1) := by decide +kernel
theorem dX5_left_28 : decode cX5_left 28 = .ok (.getfield 35, 3) := by decide +kernel
theorem dX5_left_31 : decode cX5_left 31 = .ok (.invokestatic 95, 3) := by decide +kernel
theorem dX5_left_34 : decode cX5_left 34 = .ok (.ireturn, 1) := by decide +kernel
set_option maxRecDepth 20000 in
theorem ggX5_firstTurn_X5_noSong : GoodIn wsX5_firstTurn wsX5_noSong := goodIn_r _ [5, 6, 7, 8, 4, 9, 10, 11, 12, 13, 14, 15, 16] (by decide +kernel) (by decide +kernel)
set_option maxRecDepth 20000 in
theorem gX5_firstTurn_X5_noSong : GoodIn wsX5_firstTurn (va_wsS RX5 144 yX5_noSong wsX5_noSong) := goodIn_app (goodIn_of _ (by decide +kernel)) ggX5_firstTurn_X5_noSong
set_option maxRecDepth 20000 in
theorem ggX5_firstTurn_X5_begin : GoodIn wsX5_firstTurn wsX5_begin := goodIn_r _ [20, 21, 22, 43, 44, 45, 46, 47, 48, 49, 50, 51, 52, 53, 54, 55, 56, 57, 58, 59, 60, 61, 62, 63, 64, 65, 66, 67, 68, 69, 70] (by decide +kernel) (by decide +kernel)
set_option maxRecDepth 20000 in
theorem gX5_firstTurn_X5_begin : GoodIn wsX5_firstTurn (wsV RX5 148 RX5 yX5_begin wsX5_begin) := goodIn_app (goodIn_of _ (by decide +kernel)) ggX5_firstTurn_X5_begin
set_option maxRecDepth 20000 in
theorem ggX5_firstTurn_X5_sing : GoodIn wsX5_firstTurn wsX5_sing := goodIn_r _ [26, 21, 27, 14, 15, 4, 16, 13, 10, 11, 12, 28, 29, 30, 31, 32, 33, 34, 35, 36, 37, 38, 39, 40, 41, 42, 43, 44, 45, 46, 47, 48, 49, 50, 51, 52, 53, 54, 55, 56, 57, 58, 59, 60, 61, 62, 63, 64, 65, 66, 67, 68, 69, 70] (by decide +kernel) (by decide +kernel)
set_option maxRecDepth 20000 in
theorem gX5_firstTurn_X5_sing : GoodIn wsX5_firstTurn (wsV RX5 151 RX5 yX5_sing wsX5_sing) := goodIn_app (goodIn_of _ (by decide +kernel)) ggX5_firstTurn_X5_sing
theorem dX5_firstTurn_0 : decode cX5_firstTurn 0 = .ok (.aload_n 0, 1) := by decide +kernel
theorem dX5_firstTurn_1 : decode cX5_firstTurn 1 = .ok (.iconst 0, 1) := by decide +kernel
theorem dX5_firstTurn_2 : decode cX5_firstTurn 2 = .ok (.putfield 57, 3) := by decide +kernel
theorem dX5_firstTurn_5 : decode cX5_firstTurn 5 = .ok (.iload_n 1, 1) := by decide +kernel
theorem dX5_firstTurn_6 : decode cX5_firstTurn 6 = .ok (.lload_n 2, 1) := by decide +kernel
theorem dX5_firstTurn_7 : decode cX5_firstTurn 7 = .ok (.invokestatic 144, 3) := by decide +kernel
theorem dX5_firstTurn_10 : decode cX5_firstTurn 10 = .ok (.ifCond .eq 6, 3) := by decide +kernel
theorem dX5_firstTurn_13 : decode cX5_firstTurn 13 = .ok (.bipush (-2), 2) := by decide +kernel
theorem dX5_firstTurn_15 : decode cX5_firstTurn 15 = .ok (.ireturn, 1) := by decide +kernel
theorem dX5_firstTurn_16 : decode cX5_firstTurn 16 = .ok (.aload_n 0, 1) := by decide +kernel
theorem dX5_firstTurn_17 : decode cX5_firstTurn 17 = .ok (.invokevirtual 148, 3) := by decide +kernel
theorem dX5_firstTurn_20 : decode cX5_firstTurn 20 = .ok (.aload_n 0, 1) := by decide +kernel
theorem dX5_firstTurn_21 : decode cX5_firstTurn 21 = .ok (.iload_n 1, 1) := by decide +kernel
theorem dX5_firstTurn_22 : decode cX5_firstTurn 22 = .ok (.lload_n 2, 1) := by decide +kernel
theorem dX5_firstTurn_23 : decode cX5_firstTurn 23 = .ok (.invokevirtual 151, 3) := by decide +kernel
theorem dX5_firstTurn_26 : decode cX5_firstTurn 26 = .ok (.ireturn, 1) := by decide +kernel
theorem dX5_hush_0 : decode cX5_hush 0 = .ok (.iconst 0, 1) := by decide +kernel
theorem dX5_hush_1 : decode cX5_hush 1 = .ok (.istore_n 1, 1) := by decide +kernel
theorem dX5_hush_2 : decode cX5_hush 2 = .ok (.iload_n 1, 1) := by decide +kernel
theorem dX5_hush_3 : decode cX5_hush 3 = .ok (.iconst 5, 1) := by decide +kernel
theorem dX5_hush_4 : decode cX5_hush 4 = .ok (.if_icmp .ge 19, 3) := by decide +kernel
theorem dX5_hush_7 : decode cX5_hush 7 = .ok (.aload_n 0, 1) := by decide +kernel
theorem dX5_hush_8 : decode cX5_hush 8 = .ok (.getfield 35, 3) := by decide +kernel
theorem dX5_hush_11 : decode cX5_hush 11 = .ok (.bipush 6, 2) := by decide +kernel
theorem dX5_hush_13 : decode cX5_hush 13 = .ok (.iload_n 1, 1) := by decide +kernel
theorem dX5_hush_14 : decode cX5_hush 14 = .ok (.iadd, 1) := by decide +kernel
theorem dX5_hush_15 : decode cX5_hush 15 = .ok (.iconst 0, 1) := by decide +kernel
theorem dX5_hush_16 : decode cX5_hush 16 = .ok (.iastore, 1) := by decide +kernel
theorem dX5_hush_17 : decode cX5_hush 17 = .ok (.iinc 1 1, 3) := by decide +kernel
theorem dX5_hush_20 : decode cX5_hush 20 = .ok (.goto (-18), 3) := by decide +kernel
theorem dX5_hush_23 : decode cX5_hush 23 = .ok (.return_, 1) := by decide +kernel
set_option maxRecDepth 20000 in
theorem ggX5_findOrder_X5_begin : GoodIn wsX5_findOrder wsX5_begin := goodIn_r _ [9, 4, 1, 44, 45, 46, 47, 48, 49, 50, 51, 52, 53, 54, 55, 56, 57, 58, 59, 60, 61, 62, 63, 64, 65, 66, 67, 68, 69, 70, 71] (by decide +kernel) (by decide +kernel)
set_option maxRecDepth 20000 in
theorem gX5_findOrder_X5_begin : GoodIn wsX5_findOrder (wsV RX5 148 RX5 yX5_begin wsX5_begin) := goodIn_app (goodIn_of _ (by decide +kernel)) ggX5_findOrder_X5_begin
set_option maxRecDepth 20000 in
theorem ggX5_findOrder_X5_rowOf : GoodIn wsX5_findOrder wsX5_rowOf := goodIn_r _ [12] (by decide +kernel) (by decide +kernel)
set_option maxRecDepth 20000 in
theorem gX5_findOrder_X5_rowOf : GoodIn wsX5_findOrder (va_wsS RX5 95 yX5_rowOf wsX5_rowOf) := goodIn_app (goodIn_of _ (by decide +kernel)) ggX5_findOrder_X5_rowOf
set_option maxRecDepth 20000 in
theorem ggX5_findOrder_X5_hush : GoodIn wsX5_findOrder wsX5_hush := goodIn_r _ [16, 4, 44, 45, 46, 47, 48, 49, 50, 51, 52, 53, 54, 55, 56, 57, 58, 59, 60, 61, 62, 63, 64, 65, 66, 67, 68, 69, 70, 71] (by decide +kernel) (by decide +kernel)
set_option maxRecDepth 20000 in
theorem gX5_findOrder_X5_hush : GoodIn wsX5_findOrder (wsV RX5 161 RX5 yX5_hush wsX5_hush) := goodIn_app (goodIn_of _ (by decide +kernel)) ggX5_findOrder_X5_hush
set_option maxRecDepth 20000 in
theorem ggX5_findOrder_X5_sing : GoodIn wsX5_findOrder wsX5_sing := goodIn_r _ [20, 4, 21, 22, 23, 8, 24, 25, 26, 27, 28, 29, 30, 31, 32, 33, 34, 35, 36, 37, 38, 39, 40, 41, 42, 43, 44, 45, 46, 47, 48, 49, 50, 51, 52, 53, 54, 55, 56, 57, 58, 59, 60, 61, 62, 63, 64, 65, 66, 67, 68, 69, 70, 71] (by decide +kernel) (by decide +kernel)
set_option maxRecDepth 20000 in
theorem gX5_findOrder_X5_sing : GoodIn wsX5_findOrder (wsV RX5 151 RX5 yX5_sing wsX5_sing) := goodIn_app (goodIn_of _ (by decide +kernel)) ggX5_findOrder_X5_sing
theorem dX5_findOrder_0 : decode cX5_findOrder 0 = .ok (.aload_n 0, 1) := by decide +kernel
theorem dX5_findOrder_1 : decode cX5_findOrder 1 = .ok (.getfield 32, 3) := by decide +kernel
theorem dX5_findOrder_4 : decode cX5_findOrder 4 = .ok (.iconst 5, 1) := by decide +kernel
theorem dX5_findOrder_5 : decode cX5_findOrder 5 = .ok (.iaload, 1) := by decide +kernel
theorem dX5_findOrder_6 : decode cX5_findOrder 6 = .ok (.istore 4, 2) := by decide +kernel
theorem dX5_findOrder_8 : decode cX5_findOrder 8 = .ok (.iconst 1, 1) := by decide +kernel
theorem dX5_findOrder_9 : decode cX5_findOrder 9 = .ok (.istore 5, 2) := by decide +kernel
theorem dX5_findOrder_11 : decode cX5_findOrder 11 = .ok (.iconst 0, 1) := by decide +kernel
theorem dX5_findOrder_12 : decode cX5_findOrder 12 = .ok (.istore 6, 2) := by decide +kernel
theorem dX5_findOrder_14 : decode cX5_findOrder 14 = .ok (.iload 6, 2) := by decide +kernel
theorem dX5_findOrder_16 : decode cX5_findOrder 16 = .ok (.iload 4, 2) := by decide +kernel
theorem dX5_findOrder_18 : decode cX5_findOrder 18 = .ok (.if_icmp .ge 16, 3) := by decide +kernel
theorem dX5_findOrder_21 : decode cX5_findOrder 21 = .ok (.iload 5, 2) := by decide +kernel
theorem dX5_findOrder_23 : decode cX5_findOrder 23 = .ok (.bipush 10, 2) := by decide +kernel
theorem dX5_findOrder_25 : decode cX5_findOrder 25 = .ok (.imul, 1) := by decide +kernel
theorem dX5_findOrder_26 : decode cX5_findOrder 26 = .ok (.istore 5, 2) := by decide +kernel
theorem dX5_findOrder_28 : decode cX5_findOrder 28 = .ok (.iinc 6 1, 3) := by decide +kernel
theorem dX5_findOrder_31 : decode cX5_findOrder 31 = .ok (.goto (-17), 3) := by decide +kernel
theorem dX5_findOrder_34 : decode cX5_findOrder 34 = .ok (.aload_n 0, 1) := by decide +kernel
theorem dX5_findOrder_35 : decode cX5_findOrder 35 = .ok (.iconst 0, 1) := by decide +kernel
theorem dX5_findOrder_36 : decode cX5_findOrder 36 = .ok (.putfield 155, 3) := by decide +kernel
theorem dX5_findOrder_39 : decode cX5_findOrder 39 = .ok (.aload_n 0, 1) := by decide +kernel
theorem dX5_findOrder_40 : decode cX5_findOrder 40 = .ok (.iload 4, 2) := by decide +kernel
theorem dX5_findOrder_42 : decode cX5_findOrder 42 = .ok (.ifCond .ne 7, 3) := by decide +kernel
theorem dX5_findOrder_45 : decode cX5_findOrder 45 = .ok (.iconst 0, 1) := by decide +kernel
theorem dX5_findOrder_46 : decode cX5_findOrder 46 = .ok (.goto 5, 3) := by decide +kernel
theorem dX5_findOrder_49 : decode cX5_findOrder 49 = .ok (.bipush (-9), 2) := by decide +kernel
theorem dX5_findOrder_51 : decode cX5_findOrder 51 = .ok (.putfield 158, 3) := by decide +kernel
theorem dX5_findOrder_54 : decode cX5_findOrder 54 = .ok (.iconst 0, 1) := by decide +kernel
theorem dX5_findOrder_55 : decode cX5_findOrder 55 = .ok (.istore 6, 2) := by decide +kernel
theorem dX5_findOrder_57 : decode cX5_findOrder 57 = .ok (.iload 6, 2) := by decide +kernel
theorem dX5_findOrder_59 : decode cX5_findOrder 59 = .ok (.iload 5, 2) := by decide +kernel
theorem dX5_findOrder_61 : decode cX5_findOrder 61 = .ok (.if_icmp .ge 171, 3) := by decide +kernel
theorem dX5_findOrder_64 : decode cX5_findOrder 64 = .ok (.iload 4, 2) := by decide +kernel
theorem dX5_findOrder_66 : decode cX5_findOrder 66 = .ok (.ifCond .le 166, 3) := by decide +kernel
theorem dX5_findOrder_69 : decode cX5_findOrder 69 = .ok (.iconst 0, 1) := by decide +kernel
theorem dX5_findOrder_70 : decode cX5_findOrder 70 = .ok (.istore 7, 2) := by decide +kernel
theorem dX5_findOrder_72 : decode cX5_findOrder 72 = .ok (.iload 6, 2) := by decide +kernel
theorem dX5_findOrder_74 : decode cX5_findOrder 74 = .ok (.istore 8, 2) := by decide +kernel
theorem dX5_findOrder_76 : decode cX5_findOrder 76 = .ok (.aload_n 0, 1) := by decide +kernel
theorem dX5_findOrder_77 : decode cX5_findOrder 77 = .ok (.invokevirtual 148, 3) := by decide +kernel
theorem dX5_findOrder_80 : decode cX5_findOrder 80 = .ok (.iload 4, 2) := by decide +kernel
theorem dX5_findOrder_82 : decode cX5_findOrder 82 = .ok (.iconst 1, 1) := by decide +kernel
theorem dX5_findOrder_83 : decode cX5_findOrder 83 = .ok (.isub, 1) := by decide +kernel
theorem dX5_findOrder_84 : decode cX5_findOrder 84 = .ok (.istore 9, 2) := by decide +kernel
theorem dX5_findOrder_86 : decode cX5_findOrder 86 = .ok (.iload 9, 2) := by decide +kernel
theorem dX5_findOrder_88 : decode cX5_findOrder 88 = .ok (.ifCond .lt 59, 3) := by decide +kernel
theorem dX5_findOrder_91 : decode cX5_findOrder 91 = .ok (.iload 8, 2) := by decide +kernel
theorem dX5_findOrder_93 : decode cX5_findOrder 93 = .ok (.bipush 10, 2) := by decide +kernel
theorem dX5_findOrder_95 : decode cX5_findOrder 95 = .ok (.irem, 1) := by decide +kernel
theorem dX5_findOrder_96 : decode cX5_findOrder 96 = .ok (.iconst 1, 1) := by decide +kernel
theorem dX5_findOrder_97 : decode cX5_findOrder 97 = .ok (.isub, 1) := by decide +kernel
theorem dX5_findOrder_98 : decode cX5_findOrder 98 = .ok (.istore 10, 2) := by decide +kernel
theorem dX5_findOrder_100 : decode cX5_findOrder 100 = .ok (.iload 8, 2) := by decide +kernel
theorem dX5_findOrder_102 : decode cX5_findOrder 102 = .ok (.bipush 10, 2) := by decide +kernel
theorem dX5_findOrder_104 : decode cX5_findOrder 104 = .ok (.idiv, 1) := by decide +kernel
theorem dX5_findOrder_105 : decode cX5_findOrder 105 = .ok (.istore 8, 2) := by decide +kernel
theorem dX5_findOrder_107 : decode cX5_findOrder 107 = .ok (.iload 7, 2) := by decide +kernel
theorem dX5_findOrder_109 : decode cX5_findOrder 109 = .ok (.iload 10, 2) := by decide +kernel
theorem dX5_findOrder_111 : decode cX5_findOrder 111 = .ok (.ifCond .lt 16, 3) := by decide +kernel
theorem dX5_findOrder_114 : decode cX5_findOrder 114 = .ok (.iload 10, 2) := by decide +kernel
theorem dX5_findOrder_116 : decode cX5_findOrder 116 = .ok (.iconst 5, 1) := by decide +kernel
theorem dX5_findOrder_117 : decode cX5_findOrder 117 = .ok (.if_icmp .ge 10, 3) := by decide +kernel
theorem dX5_findOrder_120 : decode cX5_findOrder 120 = .ok (.iconst 1, 1) := by decide +kernel
theorem dX5_findOrder_121 : decode cX5_findOrder 121 = .ok (.iload 10, 2) := by decide +kernel
theorem dX5_findOrder_123 : decode cX5_findOrder 123 = .ok (.ishl, 1) := by decide +kernel
theorem dX5_findOrder_124 : decode cX5_findOrder 124 = .ok (.goto 5, 3) := by decide +kernel
theorem dX5_findOrder_127 : decode cX5_findOrder 127 = .ok (.bipush 32, 2) := by decide +kernel
theorem dX5_findOrder_129 : decode cX5_findOrder 129 = .ok (.ior, 1) := by decide +kernel
theorem dX5_findOrder_130 : decode cX5_findOrder 130 = .ok (.istore 7, 2) := by decide +kernel
theorem dX5_findOrder_132 : decode cX5_findOrder 132 = .ok (.aload_n 0, 1) := by decide +kernel
theorem dX5_findOrder_133 : decode cX5_findOrder 133 = .ok (.getfield 35, 3) := by decide +kernel
theorem dX5_findOrder_136 : decode cX5_findOrder 136 = .ok (.iload 9, 2) := by decide +kernel
theorem dX5_findOrder_138 : decode cX5_findOrder 138 = .ok (.iload 10, 2) := by decide +kernel
theorem dX5_findOrder_140 : decode cX5_findOrder 140 = .ok (.iastore, 1) := by decide +kernel
theorem dX5_findOrder_141 : decode cX5_findOrder 141 = .ok (.iinc 9 (-1), 3) := by decide +kernel
theorem dX5_findOrder_144 : decode cX5_findOrder 144 = .ok (.goto (-58), 3) := by decide +kernel
theorem dX5_findOrder_147 : decode cX5_findOrder 147 = .ok (.iload 7, 2) := by decide +kernel
theorem dX5_findOrder_149 : decode cX5_findOrder 149 = .ok (.aload_n 0, 1) := by decide +kernel
theorem dX5_findOrder_150 : decode cX5_findOrder 150 = .ok (.getfield 32, 3) := by decide +kernel
theorem dX5_findOrder_153 : decode cX5_findOrder 153 = .ok (.invokestatic 95, 3) := by decide +kernel
theorem dX5_findOrder_156 : decode cX5_findOrder 156 = .ok (.if_icmp .ne 70, 3) := by decide +kernel
theorem dX5_findOrder_159 : decode cX5_findOrder 159 = .ok (.aload_n 0, 1) := by decide +kernel
theorem dX5_findOrder_160 : decode cX5_findOrder 160 = .ok (.invokevirtual 161, 3) := by decide +kernel
theorem dX5_findOrder_163 : decode cX5_findOrder 163 = .ok (.aload_n 0, 1) := by decide +kernel
theorem dX5_findOrder_164 : decode cX5_findOrder 164 = .ok (.iload_n 1, 1) := by decide +kernel
theorem dX5_findOrder_165 : decode cX5_findOrder 165 = .ok (.lload_n 2, 1) := by decide +kernel
theorem dX5_findOrder_166 : decode cX5_findOrder 166 = .ok (.invokevirtual 151, 3) := by decide +kernel
theorem dX5_findOrder_169 : decode cX5_findOrder 169 = .ok (.pop, 1) := by decide +kernel
theorem dX5_findOrder_170 : decode cX5_findOrder 170 = .ok (.aload_n 0, 1) := by decide +kernel
theorem dX5_findOrder_171 : decode cX5_findOrder 171 = .ok (.aload_n 0, 1) := by decide +kernel
theorem dX5_findOrder_172 : decode cX5_findOrder 172 = .ok (.getfield 35, 3) := by decide +kernel
theorem dX5_findOrder_175 : decode cX5_findOrder 175 = .ok (.iconst 5, 1) := by decide +kernel
theorem dX5_findOrder_176 : decode cX5_findOrder 176 = .ok (.iaload, 1) := by decide +kernel
theorem dX5_findOrder_177 : decode cX5_findOrder 177 = .ok (.aload_n 0, 1) := by decide +kernel
theorem dX5_findOrder_178 : decode cX5_findOrder 178 = .ok (.getfield 158, 3) := by decide +kernel
theorem dX5_findOrder_181 : decode cX5_findOrder 181 = .ok (.if_icmp .le 8, 3) := by decide +kernel
theorem dX5_findOrder_184 : decode cX5_findOrder 184 = .ok (.iload 6, 2) := by decide +kernel
theorem dX5_findOrder_186 : decode cX5_findOrder 186 = .ok (.goto 7, 3) := by decide +kernel
theorem dX5_findOrder_189 : decode cX5_findOrder 189 = .ok (.aload_n 0, 1) := by decide +kernel
theorem dX5_findOrder_190 : decode cX5_findOrder 190 = .ok (.getfield 155, 3) := by decide +kernel
theorem dX5_findOrder_193 : decode cX5_findOrder 193 = .ok (.putfield 155, 3) := by decide +kernel
theorem dX5_findOrder_196 : decode cX5_findOrder 196 = .ok (.aload_n 0, 1) := by decide +kernel
theorem dX5_findOrder_197 : decode cX5_findOrder 197 = .ok (.aload_n 0, 1) := by decide +kernel
theorem dX5_findOrder_198 : decode cX5_findOrder 198 = .ok (.getfield 35, 3) := by decide +kernel
theorem dX5_findOrder_201 : decode cX5_findOrder 201 = .ok (.iconst 5, 1) := by decide +kernel
theorem dX5_findOrder_202 : decode cX5_findOrder 202 = .ok (.iaload, 1) := by decide +kernel
theorem dX5_findOrder_203 : decode cX5_findOrder 203 = .ok (.aload_n 0, 1) := by decide +kernel
theorem dX5_findOrder_204 : decode cX5_findOrder 204 = .ok (.getfield 158, 3) := by decide +kernel
theorem dX5_findOrder_207 : decode cX5_findOrder 207 = .ok (.if_icmp .le 12, 3) := by decide +kernel
theorem dX5_findOrder_210 : decode cX5_findOrder 210 = .ok (.aload_n 0, 1) := by decide +kernel
theorem dX5_findOrder_211 : decode cX5_findOrder 211 = .ok (.getfield 35, 3) := by decide +kernel
theorem dX5_findOrder_214 : decode cX5_findOrder 214 = .ok (.iconst 5, 1) := by decide +kernel
theorem dX5_findOrder_215 : decode cX5_findOrder 215 = .ok (.iaload, 1) := by decide +kernel
theorem dX5_findOrder_216 : decode cX5_findOrder 216 = .ok (.goto 7, 3) := by decide +kernel
theorem dX5_findOrder_219 : decode cX5_findOrder 219 = .ok (.aload_n 0, 1) := by decide +kernel
theorem dX5_findOrder_220 : decode cX5_findOrder 220 = .ok (.getfield 158, 3) := by decide +kernel
theorem dX5_findOrder_223 : decode cX5_findOrder 223 = .ok (.putfield 158, 3) := by decide +kernel
theorem dX5_findOrder_226 : decode cX5_findOrder 226 = .ok (.iinc 6 1, 3) := by decide +kernel
theorem dX5_findOrder_229 : decode cX5_findOrder 229 = .ok (.goto (-172), 3) := by decide +kernel
theorem dX5_findOrder_232 : decode cX5_findOrder 232 = .ok (.return_, 1) := by decide +kernel
set_option maxRecDepth 20000 in
theorem ggX5_order_X5_noSong : GoodIn wsX5_order wsX5_noSong := goodIn_r _ [7, 8, 9, 10, 6, 11, 12, 13, 14, 15, 16, 17, 18] (by decide +kernel) (by decide +kernel)
set_option maxRecDepth 20000 in
theorem gX5_order_X5_noSong : GoodIn wsX5_order (va_wsS RX5 144 yX5_noSong wsX5_noSong) := goodIn_app (goodIn_of _ (by decide +kernel)) ggX5_order_X5_noSong
set_option maxRecDepth 20000 in
theorem ggX5_order_X5_in : GoodIn wsX5_order wsX5_in := goodIn_r _ [11] (by decide +kernel) (by decide +kernel)
set_option maxRecDepth 20000 in
theorem gX5_order_X5_in : GoodIn wsX5_order (va_wsS RX5 63 yX5_in wsX5_in) := goodIn_app (goodIn_of _ (by decide +kernel)) ggX5_order_X5_in
set_option maxRecDepth 20000 in
theorem ggX5_order_X5_findOrder : GoodIn wsX5_order wsX5_findOrder := goodIn_r _ [22, 23, 2, 3, 24, 25, 26, 27, 6, 28, 29, 30, 31, 32, 33, 34, 35, 36, 37, 38, 39, 40, 16, 17, 18, 15, 12, 13, 14, 41, 42, 43, 44, 45, 46, 47, 48, 49, 50, 51, 52, 53, 54, 55, 56, 57, 58, 59, 60, 61, 62, 63, 64, 65, 66, 67, 68, 69, 70, 71, 72, 73, 74, 75, 76, 77, 78, 79, 80, 81, 82, 83] (by decide +kernel) (by decide +kernel)
set_option maxRecDepth 20000 in
theorem gX5_order_X5_findOrder : GoodIn wsX5_order (wsV RX5 164 RX5 yX5_findOrder wsX5_findOrder) := goodIn_app (goodIn_of _ (by decide +kernel)) ggX5_order_X5_findOrder
theorem dX5_order_0 : decode cX5_order 0 = .ok (.aload_n 0, 1) := by decide +kernel
theorem dX5_order_1 : decode cX5_order 1 = .ok (.iconst 0, 1) := by decide +kernel
theorem dX5_order_2 : decode cX5_order 2 = .ok (.putfield 57, 3) := by decide +kernel
theorem dX5_order_5 : decode cX5_order 5 = .ok (.iload_n 1, 1) := by decide +kernel
theorem dX5_order_6 : decode cX5_order 6 = .ok (.lload_n 2, 1) := by decide +kernel
theorem dX5_order_7 : decode cX5_order 7 = .ok (.invokestatic 144, 3) := by decide +kernel
theorem dX5_order_10 : decode cX5_order 10 = .ok (.ifCond .ne 14, 3) := by decide +kernel
theorem dX5_order_13 : decode cX5_order 13 = .ok (.iload 4, 2) := by decide +kernel
theorem dX5_order_15 : decode cX5_order 15 = .ok (.i2l, 1) := by decide +kernel
theorem dX5_order_16 : decode cX5_order 16 = .ok (.lconst 0, 1) := by decide +kernel
theorem dX5_order_17 : decode cX5_order 17 = .ok (.lconst 1, 1) := by decide +kernel
theorem dX5_order_18 : decode cX5_order 18 = .ok (.invokestatic 63, 3) := by decide +kernel
theorem dX5_order_21 : decode cX5_order 21 = .ok (.ifCond .ne 6, 3) := by decide +kernel
theorem dX5_order_24 : decode cX5_order 24 = .ok (.bipush (-2), 2) := by decide +kernel
theorem dX5_order_26 : decode cX5_order 26 = .ok (.ireturn, 1) := by decide +kernel
theorem dX5_order_27 : decode cX5_order 27 = .ok (.aload_n 0, 1) := by decide +kernel
theorem dX5_order_28 : decode cX5_order 28 = .ok (.iload_n 1, 1) := by decide +kernel
theorem dX5_order_29 : decode cX5_order 29 = .ok (.lload_n 2, 1) := by decide +kernel
theorem dX5_order_30 : decode cX5_order 30 = .ok (.invokevirtual 164, 3) := by decide +kernel
theorem dX5_order_33 : decode cX5_order 33 = .ok (.iload 4, 2) := by decide +kernel
theorem dX5_order_35 : decode cX5_order 35 = .ok (.ifCond .ne 10, 3) := by decide +kernel
theorem dX5_order_38 : decode cX5_order 38 = .ok (.aload_n 0, 1) := by decide +kernel
theorem dX5_order_39 : decode cX5_order 39 = .ok (.getfield 155, 3) := by decide +kernel
theorem dX5_order_42 : decode cX5_order 42 = .ok (.goto 7, 3) := by decide +kernel
theorem dX5_order_45 : decode cX5_order 45 = .ok (.aload_n 0, 1) := by decide +kernel
theorem dX5_order_46 : decode cX5_order 46 = .ok (.getfield 158, 3) := by decide +kernel
theorem dX5_order_49 : decode cX5_order 49 = .ok (.ireturn, 1) := by decide +kernel
set_option maxRecDepth 20000 in
theorem ggX5_worthOf_X5_begin : GoodIn wsX5_worthOf wsX5_begin := goodIn_r _ [7, 2, 1, 39, 40, 41, 42, 43, 44, 45, 46, 47, 48, 49, 50, 51, 52, 53, 54, 55, 56, 57, 58, 59, 60, 61, 62, 63, 64, 65, 66] (by decide +kernel) (by decide +kernel)
set_option maxRecDepth 20000 in
theorem gX5_worthOf_X5_begin : GoodIn wsX5_worthOf (wsV RX5 148 RX5 yX5_begin wsX5_begin) := goodIn_app (goodIn_of _ (by decide +kernel)) ggX5_worthOf_X5_begin
set_option maxRecDepth 20000 in
theorem ggX5_worthOf_X5_hush : GoodIn wsX5_worthOf wsX5_hush := goodIn_r _ [11, 2, 39, 40, 41, 42, 43, 44, 45, 46, 47, 48, 49, 50, 51, 52, 53, 54, 55, 56, 57, 58, 59, 60, 61, 62, 63, 64, 65, 66] (by decide +kernel) (by decide +kernel)
set_option maxRecDepth 20000 in
theorem gX5_worthOf_X5_hush : GoodIn wsX5_worthOf (wsV RX5 161 RX5 yX5_hush wsX5_hush) := goodIn_app (goodIn_of _ (by decide +kernel)) ggX5_worthOf_X5_hush
set_option maxRecDepth 20000 in
theorem ggX5_worthOf_X5_has : GoodIn wsX5_worthOf wsX5_has := goodIn_r _ [14] (by decide +kernel) (by decide +kernel)
set_option maxRecDepth 20000 in
theorem gX5_worthOf_X5_has : GoodIn wsX5_worthOf (va_wsS RX5 113 yX5_has wsX5_has) := goodIn_app (goodIn_of _ (by decide +kernel)) ggX5_worthOf_X5_has
set_option maxRecDepth 20000 in
theorem ggX5_worthOf_X5_sing : GoodIn wsX5_worthOf wsX5_sing := goodIn_r _ [18, 2, 19, 20, 21, 6, 22, 23, 24, 25, 26, 27, 28, 29, 30, 31, 32, 33, 34, 35, 36, 37, 38, 12, 13, 14, 39, 40, 41, 42, 43, 44, 45, 46, 47, 48, 49, 50, 51, 52, 53, 54, 55, 56, 57, 58, 59, 60, 61, 62, 63, 64, 65, 66] (by decide +kernel) (by decide +kernel)
set_option maxRecDepth 20000 in
theorem gX5_worthOf_X5_sing : GoodIn wsX5_worthOf (wsV RX5 151 RX5 yX5_sing wsX5_sing) := goodIn_app (goodIn_of _ (by decide +kernel)) ggX5_worthOf_X5_sing
theorem dX5_worthOf_0 : decode cX5_worthOf 0 = .ok (.aload_n 0, 1) := by decide +kernel
theorem dX5_worthOf_1 : decode cX5_worthOf 1 = .ok (.invokevirtual 148, 3) := by decide +kernel
theorem dX5_worthOf_4 : decode cX5_worthOf 4 = .ok (.aload_n 0, 1) := by decide +kernel
theorem dX5_worthOf_5 : decode cX5_worthOf 5 = .ok (.invokevirtual 161, 3) := by decide +kernel
theorem dX5_worthOf_8 : decode cX5_worthOf 8 = .ok (.iconst 0, 1) := by decide +kernel
theorem dX5_worthOf_9 : decode cX5_worthOf 9 = .ok (.istore 5, 2) := by decide +kernel
theorem dX5_worthOf_11 : decode cX5_worthOf 11 = .ok (.iconst 0, 1) := by decide +kernel
theorem dX5_worthOf_12 : decode cX5_worthOf 12 = .ok (.istore 6, 2) := by decide +kernel
theorem dX5_worthOf_14 : decode cX5_worthOf 14 = .ok (.iload 6, 2) := by decide +kernel
theorem dX5_worthOf_16 : decode cX5_worthOf 16 = .ok (.aload_n 0, 1) := by decide +kernel
theorem dX5_worthOf_17 : decode cX5_worthOf 17 = .ok (.getfield 32, 3) := by decide +kernel
theorem dX5_worthOf_20 : decode cX5_worthOf 20 = .ok (.iconst 5, 1) := by decide +kernel
theorem dX5_worthOf_21 : decode cX5_worthOf 21 = .ok (.iaload, 1) := by decide +kernel
theorem dX5_worthOf_22 : decode cX5_worthOf 22 = .ok (.if_icmp .ge 40, 3) := by decide +kernel
theorem dX5_worthOf_25 : decode cX5_worthOf 25 = .ok (.iload_n 1, 1) := by decide +kernel
theorem dX5_worthOf_26 : decode cX5_worthOf 26 = .ok (.aload_n 0, 1) := by decide +kernel
theorem dX5_worthOf_27 : decode cX5_worthOf 27 = .ok (.getfield 32, 3) := by decide +kernel
theorem dX5_worthOf_30 : decode cX5_worthOf 30 = .ok (.iload 6, 2) := by decide +kernel
theorem dX5_worthOf_32 : decode cX5_worthOf 32 = .ok (.iaload, 1) := by decide +kernel
theorem dX5_worthOf_33 : decode cX5_worthOf 33 = .ok (.invokestatic 113, 3) := by decide +kernel
theorem dX5_worthOf_36 : decode cX5_worthOf 36 = .ok (.ifCond .eq 20, 3) := by decide +kernel
theorem dX5_worthOf_39 : decode cX5_worthOf 39 = .ok (.aload_n 0, 1) := by decide +kernel
theorem dX5_worthOf_40 : decode cX5_worthOf 40 = .ok (.getfield 35, 3) := by decide +kernel
theorem dX5_worthOf_43 : decode cX5_worthOf 43 = .ok (.iload 5, 2) := by decide +kernel
theorem dX5_worthOf_45 : decode cX5_worthOf 45 = .ok (.aload_n 0, 1) := by decide +kernel
theorem dX5_worthOf_46 : decode cX5_worthOf 46 = .ok (.getfield 32, 3) := by decide +kernel
theorem dX5_worthOf_49 : decode cX5_worthOf 49 = .ok (.iload 6, 2) := by decide +kernel
theorem dX5_worthOf_51 : decode cX5_worthOf 51 = .ok (.iaload, 1) := by decide +kernel
theorem dX5_worthOf_52 : decode cX5_worthOf 52 = .ok (.iastore, 1) := by decide +kernel
theorem dX5_worthOf_53 : decode cX5_worthOf 53 = .ok (.iinc 5 1, 3) := by decide +kernel
theorem dX5_worthOf_56 : decode cX5_worthOf 56 = .ok (.iinc 6 1, 3) := by decide +kernel
theorem dX5_worthOf_59 : decode cX5_worthOf 59 = .ok (.goto (-45), 3) := by decide +kernel
theorem dX5_worthOf_62 : decode cX5_worthOf 62 = .ok (.aload_n 0, 1) := by decide +kernel
theorem dX5_worthOf_63 : decode cX5_worthOf 63 = .ok (.getfield 35, 3) := by decide +kernel
theorem dX5_worthOf_66 : decode cX5_worthOf 66 = .ok (.iconst 5, 1) := by decide +kernel
theorem dX5_worthOf_67 : decode cX5_worthOf 67 = .ok (.iload 5, 2) := by decide +kernel
theorem dX5_worthOf_69 : decode cX5_worthOf 69 = .ok (.iastore, 1) := by decide +kernel
theorem dX5_worthOf_70 : decode cX5_worthOf 70 = .ok (.aload_n 0, 1) := by decide +kernel
theorem dX5_worthOf_71 : decode cX5_worthOf 71 = .ok (.iload_n 2, 1) := by decide +kernel
theorem dX5_worthOf_72 : decode cX5_worthOf 72 = .ok (.lload_n 3, 1) := by decide +kernel
theorem dX5_worthOf_73 : decode cX5_worthOf 73 = .ok (.invokevirtual 151, 3) := by decide +kernel
theorem dX5_worthOf_76 : decode cX5_worthOf 76 = .ok (.pop, 1) := by decide +kernel
theorem dX5_worthOf_77 : decode cX5_worthOf 77 = .ok (.aload_n 0, 1) := by decide +kernel
theorem dX5_worthOf_78 : decode cX5_worthOf 78 = .ok (.getfield 35, 3) := by decide +kernel
theorem dX5_worthOf_81 : decode cX5_worthOf 81 = .ok (.iconst 5, 1) := by decide +kernel
theorem dX5_worthOf_82 : decode cX5_worthOf 82 = .ok (.iaload, 1) := by decide +kernel
theorem dX5_worthOf_83 : decode cX5_worthOf 83 = .ok (.ireturn, 1) := by decide +kernel
theorem dX5_orders_0 : decode cX5_orders 0 = .ok (.iconst 1, 1) := by decide +kernel
theorem dX5_orders_1 : decode cX5_orders 1 = .ok (.istore_n 1, 1) := by decide +kernel
theorem dX5_orders_2 : decode cX5_orders 2 = .ok (.iconst 2, 1) := by decide +kernel
theorem dX5_orders_3 : decode cX5_orders 3 = .ok (.istore_n 2, 1) := by decide +kernel
theorem dX5_orders_4 : decode cX5_orders 4 = .ok (.iload_n 2, 1) := by decide +kernel
theorem dX5_orders_5 : decode cX5_orders 5 = .ok (.iload_n 0, 1) := by decide +kernel
theorem dX5_orders_6 : decode cX5_orders 6 = .ok (.if_icmp .gt 13, 3) := by decide +kernel
theorem dX5_orders_9 : decode cX5_orders 9 = .ok (.iload_n 1, 1) := by decide +kernel
theorem dX5_orders_10 : decode cX5_orders 10 = .ok (.iload_n 2, 1) := by decide +kernel
theorem dX5_orders_11 : decode cX5_orders 11 = .ok (.imul, 1) := by decide +kernel
theorem dX5_orders_12 : decode cX5_orders 12 = .ok (.istore_n 1, 1) := by decide +kernel
theorem dX5_orders_13 : decode cX5_orders 13 = .ok (.iinc 2 1, 3) := by decide +kernel
theorem dX5_orders_16 : decode cX5_orders 16 = .ok (.goto (-12), 3) := by decide +kernel
theorem dX5_orders_19 : decode cX5_orders 19 = .ok (.iload_n 1, 1) := by decide +kernel
theorem dX5_orders_20 : decode cX5_orders 20 = .ok (.ireturn, 1) := by decide +kernel
theorem dX5_divisor_0 : decode cX5_divisor 0 = .ok (.iload_n 0, 1) := by decide +kernel
theorem dX5_divisor_1 : decode cX5_divisor 1 = .ok (.ifCond .ge 8, 3) := by decide +kernel
theorem dX5_divisor_4 : decode cX5_divisor 4 = .ok (.iload_n 0, 1) := by decide +kernel
theorem dX5_divisor_5 : decode cX5_divisor 5 = .ok (.ineg, 1) := by decide +kernel
theorem dX5_divisor_6 : decode cX5_divisor 6 = .ok (.goto 4, 3) := by decide +kernel
theorem dX5_divisor_9 : decode cX5_divisor 9 = .ok (.iload_n 0, 1) := by decide +kernel
theorem dX5_divisor_10 : decode cX5_divisor 10 = .ok (.istore_n 2, 1) := by decide +kernel
theorem dX5_divisor_11 : decode cX5_divisor 11 = .ok (.iload_n 1, 1) := by decide +kernel
theorem dX5_divisor_12 : decode cX5_divisor 12 = .ok (.istore_n 3, 1) := by decide +kernel
theorem dX5_divisor_13 : decode cX5_divisor 13 = .ok (.iload_n 3, 1) := by decide +kernel
theorem dX5_divisor_14 : decode cX5_divisor 14 = .ok (.ifCond .eq 16, 3) := by decide +kernel
theorem dX5_divisor_17 : decode cX5_divisor 17 = .ok (.iload_n 2, 1) := by decide +kernel
theorem dX5_divisor_18 : decode cX5_divisor 18 = .ok (.iload_n 3, 1) := by decide +kernel
theorem dX5_divisor_19 : decode cX5_divisor 19 = .ok (.irem, 1) := by decide +kernel
theorem dX5_divisor_20 : decode cX5_divisor 20 = .ok (.istore 4, 2) := by decide +kernel
theorem dX5_divisor_22 : decode cX5_divisor 22 = .ok (.iload_n 3, 1) := by decide +kernel
theorem dX5_divisor_23 : decode cX5_divisor 23 = .ok (.istore_n 2, 1) := by decide +kernel
theorem dX5_divisor_24 : decode cX5_divisor 24 = .ok (.iload 4, 2) := by decide +kernel
theorem dX5_divisor_26 : decode cX5_divisor 26 = .ok (.istore_n 3, 1) := by decide +kernel
theorem dX5_divisor_27 : decode cX5_divisor 27 = .ok (.goto (-14), 3) := by decide +kernel
theorem dX5_divisor_30 : decode cX5_divisor 30 = .ok (.iload_n 2, 1) := by decide +kernel
theorem dX5_divisor_31 : decode cX5_divisor 31 = .ok (.ireturn, 1) := by decide +kernel
set_option maxRecDepth 20000 in
theorem ggX5_fraction_X5_divisor : GoodIn wsX5_fraction wsX5_divisor := goodIn_r _ [4] (by decide +kernel) (by decide +kernel)
set_option maxRecDepth 20000 in
theorem gX5_fraction_X5_divisor : GoodIn wsX5_fraction (va_wsS RX5 168 yX5_divisor wsX5_divisor) := goodIn_app (goodIn_of _ (by decide +kernel)) ggX5_fraction_X5_divisor
theorem dX5_fraction_0 : decode cX5_fraction 0 = .ok (.iload_n 0, 1) := by decide +kernel
theorem dX5_fraction_1 : decode cX5_fraction 1 = .ok (.iload_n 1, 1) := by decide +kernel
theorem dX5_fraction_2 : decode cX5_fraction 2 = .ok (.invokestatic 168, 3) := by decide +kernel
theorem dX5_fraction_5 : decode cX5_fraction 5 = .ok (.istore_n 3, 1) := by decide +kernel
theorem dX5_fraction_6 : decode cX5_fraction 6 = .ok (.iload_n 2, 1) := by decide +kernel
theorem dX5_fraction_7 : decode cX5_fraction 7 = .ok (.ifCond .eq 9, 3) := by decide +kernel
theorem dX5_fraction_10 : decode cX5_fraction 10 = .ok (.iload_n 0, 1) := by decide +kernel
theorem dX5_fraction_11 : decode cX5_fraction 11 = .ok (.iload_n 3, 1) := by decide +kernel
theorem dX5_fraction_12 : decode cX5_fraction 12 = .ok (.idiv, 1) := by decide +kernel
theorem dX5_fraction_13 : decode cX5_fraction 13 = .ok (.goto 6, 3) := by decide +kernel
theorem dX5_fraction_16 : decode cX5_fraction 16 = .ok (.iload_n 1, 1) := by decide +kernel
theorem dX5_fraction_17 : decode cX5_fraction 17 = .ok (.iload_n 3, 1) := by decide +kernel
theorem dX5_fraction_18 : decode cX5_fraction 18 = .ok (.idiv, 1) := by decide +kernel
theorem dX5_fraction_19 : decode cX5_fraction 19 = .ok (.ireturn, 1) := by decide +kernel
set_option maxRecDepth 20000 in
theorem ggX5_share_X5_noOne : GoodIn wsX5_share wsX5_noOne := goodIn_r _ [8, 9, 10, 11, 7, 12, 72, 73, 74, 75, 76, 77, 78, 79, 80, 81, 82, 83, 84, 85, 86, 87, 88, 89, 90, 91, 92, 93, 94, 95, 96, 97, 98, 99] (by decide +kernel) (by decide +kernel)
set_option maxRecDepth 20000 in
theorem gX5_share_X5_noOne : GoodIn wsX5_share (wsV RX5 105 RX5 yX5_noOne wsX5_noOne) := goodIn_app (goodIn_of _ (by decide +kernel)) ggX5_share_X5_noOne
set_option maxRecDepth 20000 in
theorem ggX5_share_X5_noSong : GoodIn wsX5_share wsX5_noSong := goodIn_r _ [15, 16, 10, 11, 7, 12, 17, 18, 19, 20, 21, 22, 23] (by decide +kernel) (by decide +kernel)
set_option maxRecDepth 20000 in
theorem gX5_share_X5_noSong : GoodIn wsX5_share (va_wsS RX5 144 yX5_noSong wsX5_noSong) := goodIn_app (goodIn_of _ (by decide +kernel)) ggX5_share_X5_noSong
set_option maxRecDepth 20000 in
theorem ggX5_share_X5_rowOf : GoodIn wsX5_share wsX5_rowOf := goodIn_r _ [26] (by decide +kernel) (by decide +kernel)
set_option maxRecDepth 20000 in
theorem gX5_share_X5_rowOf : GoodIn wsX5_share (va_wsS RX5 95 yX5_rowOf wsX5_rowOf) := goodIn_app (goodIn_of _ (by decide +kernel)) ggX5_share_X5_rowOf
set_option maxRecDepth 20000 in
theorem ggX5_share_X5_worthOf : GoodIn wsX5_share wsX5_worthOf := goodIn_r _ [30, 2, 31, 32, 33, 34, 7, 35, 36, 37, 38, 39, 40, 41, 42, 43, 44, 45, 46, 47, 21, 22, 23, 20, 17, 18, 19, 48, 49, 50, 51, 52, 53, 54, 55, 56, 57, 58, 59, 72, 73, 74, 75, 76, 77, 78, 79, 80, 81, 82, 83, 84, 85, 86, 87, 88, 89, 90, 91, 92, 93, 94, 95, 96, 97, 98, 99] (by decide +kernel) (by decide +kernel)
set_option maxRecDepth 20000 in
theorem gX5_share_X5_worthOf : GoodIn wsX5_share (wsV RX5 171 RX5 yX5_worthOf wsX5_worthOf) := goodIn_app (goodIn_of _ (by decide +kernel)) ggX5_share_X5_worthOf
set_option maxRecDepth 20000 in
theorem ggX5_share_X5_has : GoodIn wsX5_share wsX5_has := goodIn_r _ [42] (by decide +kernel) (by decide +kernel)
set_option maxRecDepth 20000 in
theorem gX5_share_X5_has : GoodIn wsX5_share (va_wsS RX5 113 yX5_has wsX5_has) := goodIn_app (goodIn_of _ (by decide +kernel)) ggX5_share_X5_has
set_option maxRecDepth 20000 in
theorem ggX5_share_X5_many : GoodIn wsX5_share wsX5_many := goodIn_r _ [62] (by decide +kernel) (by decide +kernel)
set_option maxRecDepth 20000 in
theorem gX5_share_X5_many : GoodIn wsX5_share (va_wsS RX5 175 yX5_many wsX5_many) := goodIn_app (goodIn_of _ (by decide +kernel)) ggX5_share_X5_many
set_option maxRecDepth 20000 in
theorem ggX5_share_X5_orders : GoodIn wsX5_share wsX5_orders := goodIn_r _ [65] (by decide +kernel) (by decide +kernel)
set_option maxRecDepth 20000 in
theorem gX5_share_X5_orders : GoodIn wsX5_share (va_wsS RX5 179 yX5_orders wsX5_orders) := goodIn_app (goodIn_of _ (by decide +kernel)) ggX5_share_X5_orders
set_option maxRecDepth 20000 in
theorem ggX5_share_X5_fraction : GoodIn wsX5_share wsX5_fraction := goodIn_r _ [68, 69, 70, 7, 71] (by decide +kernel) (by decide +kernel)
set_option maxRecDepth 20000 in
theorem gX5_share_X5_fraction : GoodIn wsX5_share (va_wsS RX5 182 yX5_fraction wsX5_fraction) := goodIn_app (goodIn_of _ (by decide +kernel)) ggX5_share_X5_fraction
theorem dX5_share_0 : decode cX5_share 0 = .ok (.aload_n 0, 1) := by decide +kernel
theorem dX5_share_1 : decode cX5_share 1 = .ok (.iconst 0, 1) := by decide +kernel
theorem dX5_share_2 : decode cX5_share 2 = .ok (.putfield 57, 3) := by decide +kernel
theorem dX5_share_5 : decode cX5_share 5 = .ok (.aload_n 0, 1) := by decide +kernel
theorem dX5_share_6 : decode cX5_share 6 = .ok (.iload_n 1, 1) := by decide +kernel
theorem dX5_share_7 : decode cX5_share 7 = .ok (.invokevirtual 105, 3) := by decide +kernel
theorem dX5_share_10 : decode cX5_share 10 = .ok (.ifCond .eq 5, 3) := by decide +kernel
theorem dX5_share_13 : decode cX5_share 13 = .ok (.iconst (-1), 1) := by decide +kernel
theorem dX5_share_14 : decode cX5_share 14 = .ok (.ireturn, 1) := by decide +kernel
theorem dX5_share_15 : decode cX5_share 15 = .ok (.iload_n 2, 1) := by decide +kernel
theorem dX5_share_16 : decode cX5_share 16 = .ok (.lload_n 3, 1) := by decide +kernel
theorem dX5_share_17 : decode cX5_share 17 = .ok (.invokestatic 144, 3) := by decide +kernel
theorem dX5_share_20 : decode cX5_share 20 = .ok (.ifCond .eq 6, 3) := by decide +kernel
theorem dX5_share_23 : decode cX5_share 23 = .ok (.bipush (-2), 2) := by decide +kernel
theorem dX5_share_25 : decode cX5_share 25 = .ok (.ireturn, 1) := by decide +kernel
theorem dX5_share_26 : decode cX5_share 26 = .ok (.aload_n 0, 1) := by decide +kernel
theorem dX5_share_27 : decode cX5_share 27 = .ok (.getfield 32, 3) := by decide +kernel
theorem dX5_share_30 : decode cX5_share 30 = .ok (.invokestatic 95, 3) := by decide +kernel
theorem dX5_share_33 : decode cX5_share 33 = .ok (.istore 6, 2) := by decide +kernel
theorem dX5_share_35 : decode cX5_share 35 = .ok (.aload_n 0, 1) := by decide +kernel
theorem dX5_share_36 : decode cX5_share 36 = .ok (.getfield 32, 3) := by decide +kernel
theorem dX5_share_39 : decode cX5_share 39 = .ok (.iconst 5, 1) := by decide +kernel
theorem dX5_share_40 : decode cX5_share 40 = .ok (.iaload, 1) := by decide +kernel
theorem dX5_share_41 : decode cX5_share 41 = .ok (.istore 7, 2) := by decide +kernel
theorem dX5_share_43 : decode cX5_share 43 = .ok (.iconst 0, 1) := by decide +kernel
theorem dX5_share_44 : decode cX5_share 44 = .ok (.istore 8, 2) := by decide +kernel
theorem dX5_share_46 : decode cX5_share 46 = .ok (.iconst 0, 1) := by decide +kernel
theorem dX5_share_47 : decode cX5_share 47 = .ok (.istore 9, 2) := by decide +kernel
theorem dX5_share_49 : decode cX5_share 49 = .ok (.iload 9, 2) := by decide +kernel
theorem dX5_share_51 : decode cX5_share 51 = .ok (.bipush 32, 2) := by decide +kernel
theorem dX5_share_53 : decode cX5_share 53 = .ok (.if_icmp .ge 38, 3) := by decide +kernel
theorem dX5_share_56 : decode cX5_share 56 = .ok (.aload_n 0, 1) := by decide +kernel
theorem dX5_share_57 : decode cX5_share 57 = .ok (.getfield 54, 3) := by decide +kernel
theorem dX5_share_60 : decode cX5_share 60 = .ok (.iload 9, 2) := by decide +kernel
theorem dX5_share_62 : decode cX5_share 62 = .ok (.iload 9, 2) := by decide +kernel
theorem dX5_share_64 : decode cX5_share 64 = .ok (.iload 6, 2) := by decide +kernel
theorem dX5_share_66 : decode cX5_share 66 = .ok (.iconst (-1), 1) := by decide +kernel
theorem dX5_share_67 : decode cX5_share 67 = .ok (.ixor, 1) := by decide +kernel
theorem dX5_share_68 : decode cX5_share 68 = .ok (.iand, 1) := by decide +kernel
theorem dX5_share_69 : decode cX5_share 69 = .ok (.ifCond .ne 14, 3) := by decide +kernel
theorem dX5_share_72 : decode cX5_share 72 = .ok (.aload_n 0, 1) := by decide +kernel
theorem dX5_share_73 : decode cX5_share 73 = .ok (.iload 9, 2) := by decide +kernel
theorem dX5_share_75 : decode cX5_share 75 = .ok (.iload_n 2, 1) := by decide +kernel
theorem dX5_share_76 : decode cX5_share 76 = .ok (.lload_n 3, 1) := by decide +kernel
theorem dX5_share_77 : decode cX5_share 77 = .ok (.invokevirtual 171, 3) := by decide +kernel
theorem dX5_share_80 : decode cX5_share 80 = .ok (.goto 4, 3) := by decide +kernel
theorem dX5_share_83 : decode cX5_share 83 = .ok (.iconst 0, 1) := by decide +kernel
theorem dX5_share_84 : decode cX5_share 84 = .ok (.iastore, 1) := by decide +kernel
theorem dX5_share_85 : decode cX5_share 85 = .ok (.iinc 9 1, 3) := by decide +kernel
theorem dX5_share_88 : decode cX5_share 88 = .ok (.goto (-39), 3) := by decide +kernel
theorem dX5_share_91 : decode cX5_share 91 = .ok (.iconst 0, 1) := by decide +kernel
theorem dX5_share_92 : decode cX5_share 92 = .ok (.istore 9, 2) := by decide +kernel
theorem dX5_share_94 : decode cX5_share 94 = .ok (.iload 9, 2) := by decide +kernel
theorem dX5_share_96 : decode cX5_share 96 = .ok (.bipush 32, 2) := by decide +kernel
theorem dX5_share_98 : decode cX5_share 98 = .ok (.if_icmp .ge 85, 3) := by decide +kernel
theorem dX5_share_101 : decode cX5_share 101 = .ok (.iload 6, 2) := by decide +kernel
theorem dX5_share_103 : decode cX5_share 103 = .ok (.iload_n 1, 1) := by decide +kernel
theorem dX5_share_104 : decode cX5_share 104 = .ok (.invokestatic 113, 3) := by decide +kernel
theorem dX5_share_107 : decode cX5_share 107 = .ok (.ifCond .eq 76, 3) := by decide +kernel
theorem dX5_share_110 : decode cX5_share 110 = .ok (.iload 9, 2) := by decide +kernel
theorem dX5_share_112 : decode cX5_share 112 = .ok (.iload 6, 2) := by decide +kernel
theorem dX5_share_114 : decode cX5_share 114 = .ok (.iconst (-1), 1) := by decide +kernel
theorem dX5_share_115 : decode cX5_share 115 = .ok (.ixor, 1) := by decide +kernel
theorem dX5_share_116 : decode cX5_share 116 = .ok (.iand, 1) := by decide +kernel
theorem dX5_share_117 : decode cX5_share 117 = .ok (.ifCond .ne 60, 3) := by decide +kernel
theorem dX5_share_120 : decode cX5_share 120 = .ok (.iload 9, 2) := by decide +kernel
theorem dX5_share_122 : decode cX5_share 122 = .ok (.iload_n 1, 1) := by decide +kernel
theorem dX5_share_123 : decode cX5_share 123 = .ok (.invokestatic 113, 3) := by decide +kernel
theorem dX5_share_126 : decode cX5_share 126 = .ok (.ifCond .ne 51, 3) := by decide +kernel
theorem dX5_share_129 : decode cX5_share 129 = .ok (.iload 9, 2) := by decide +kernel
theorem dX5_share_131 : decode cX5_share 131 = .ok (.invokestatic 175, 3) := by decide +kernel
theorem dX5_share_134 : decode cX5_share 134 = .ok (.istore 10, 2) := by decide +kernel
theorem dX5_share_136 : decode cX5_share 136 = .ok (.iload 8, 2) := by decide +kernel
theorem dX5_share_138 : decode cX5_share 138 = .ok (.iload 10, 2) := by decide +kernel
theorem dX5_share_140 : decode cX5_share 140 = .ok (.invokestatic 179, 3) := by decide +kernel
theorem dX5_share_143 : decode cX5_share 143 = .ok (.iload 7, 2) := by decide +kernel
theorem dX5_share_145 : decode cX5_share 145 = .ok (.iconst 1, 1) := by decide +kernel
theorem dX5_share_146 : decode cX5_share 146 = .ok (.isub, 1) := by decide +kernel
theorem dX5_share_147 : decode cX5_share 147 = .ok (.iload 10, 2) := by decide +kernel
theorem dX5_share_149 : decode cX5_share 149 = .ok (.isub, 1) := by decide +kernel
theorem dX5_share_150 : decode cX5_share 150 = .ok (.invokestatic 179, 3) := by decide +kernel
theorem dX5_share_153 : decode cX5_share 153 = .ok (.imul, 1) := by decide +kernel
theorem dX5_share_154 : decode cX5_share 154 = .ok (.aload_n 0, 1) := by decide +kernel
theorem dX5_share_155 : decode cX5_share 155 = .ok (.getfield 54, 3) := by decide +kernel
theorem dX5_share_158 : decode cX5_share 158 = .ok (.iload 9, 2) := by decide +kernel
theorem dX5_share_160 : decode cX5_share 160 = .ok (.iconst 1, 1) := by decide +kernel
theorem dX5_share_161 : decode cX5_share 161 = .ok (.iload_n 1, 1) := by decide +kernel
theorem dX5_share_162 : decode cX5_share 162 = .ok (.ishl, 1) := by decide +kernel
theorem dX5_share_163 : decode cX5_share 163 = .ok (.ior, 1) := by decide +kernel
theorem dX5_share_164 : decode cX5_share 164 = .ok (.iaload, 1) := by decide +kernel
theorem dX5_share_165 : decode cX5_share 165 = .ok (.aload_n 0, 1) := by decide +kernel
theorem dX5_share_166 : decode cX5_share 166 = .ok (.getfield 54, 3) := by decide +kernel
theorem dX5_share_169 : decode cX5_share 169 = .ok (.iload 9, 2) := by decide +kernel
theorem dX5_share_171 : decode cX5_share 171 = .ok (.iaload, 1) := by decide +kernel
theorem dX5_share_172 : decode cX5_share 172 = .ok (.isub, 1) := by decide +kernel
theorem dX5_share_173 : decode cX5_share 173 = .ok (.imul, 1) := by decide +kernel
theorem dX5_share_174 : decode cX5_share 174 = .ok (.iadd, 1) := by decide +kernel
theorem dX5_share_175 : decode cX5_share 175 = .ok (.istore 8, 2) := by decide +kernel
theorem dX5_share_177 : decode cX5_share 177 = .ok (.iinc 9 1, 3) := by decide +kernel
theorem dX5_share_180 : decode cX5_share 180 = .ok (.goto (-86), 3) := by decide +kernel
theorem dX5_share_183 : decode cX5_share 183 = .ok (.iload 8, 2) := by decide +kernel
theorem dX5_share_185 : decode cX5_share 185 = .ok (.iload 7, 2) := by decide +kernel
theorem dX5_share_187 : decode cX5_share 187 = .ok (.invokestatic 179, 3) := by decide +kernel
theorem dX5_share_190 : decode cX5_share 190 = .ok (.iload 5, 2) := by decide +kernel
theorem dX5_share_192 : decode cX5_share 192 = .ok (.invokestatic 182, 3) := by decide +kernel
theorem dX5_share_195 : decode cX5_share 195 = .ok (.ireturn, 1) := by decide +kernel
set_option maxRecDepth 20000 in
theorem ggX5_bears_X5_noOne : GoodIn wsX5_bears wsX5_noOne := goodIn_r _ [10, 11, 12, 13, 9, 14, 33, 34, 35, 36, 37, 38, 39, 40, 41, 42, 43, 44, 45, 46, 47, 48, 49, 50, 51, 52, 53, 54, 55, 56, 57, 58, 59, 60] (by decide +kernel) (by decide +kernel)
set_option maxRecDepth 20000 in
theorem gX5_bears_X5_noOne : GoodIn wsX5_bears (wsV RX5 105 RX5 yX5_noOne wsX5_noOne) := goodIn_app (goodIn_of _ (by decide +kernel)) ggX5_bears_X5_noOne
set_option maxRecDepth 20000 in
theorem ggX5_bears_X5_has : GoodIn wsX5_bears wsX5_has := goodIn_r _ [17] (by decide +kernel) (by decide +kernel)
set_option maxRecDepth 20000 in
theorem gX5_bears_X5_has : GoodIn wsX5_bears (va_wsS RX5 113 yX5_has wsX5_has) := goodIn_app (goodIn_of _ (by decide +kernel)) ggX5_bears_X5_has
set_option maxRecDepth 20000 in
theorem ggX5_bears_X5_begin : GoodIn wsX5_bears wsX5_begin := goodIn_r _ [21, 3, 2, 33, 34, 35, 36, 37, 38, 39, 40, 41, 42, 43, 44, 45, 46, 47, 48, 49, 50, 51, 52, 53, 54, 55, 56, 57, 58, 59, 60] (by decide +kernel) (by decide +kernel)
set_option maxRecDepth 20000 in
theorem gX5_bears_X5_begin : GoodIn wsX5_bears (wsV RX5 148 RX5 yX5_begin wsX5_begin) := goodIn_app (goodIn_of _ (by decide +kernel)) ggX5_bears_X5_begin
set_option maxRecDepth 20000 in
theorem ggX5_bears_X5_goMinute : GoodIn wsX5_bears wsX5_goMinute := goodIn_r _ [25, 26, 5, 27, 28, 29, 30, 9, 31, 32, 15, 16, 17, 33, 34, 35, 36, 37, 38, 39, 40, 41, 42, 43, 44, 45, 46, 47, 48, 49, 50, 51, 52, 53, 54, 55, 56, 57, 58, 59, 60] (by decide +kernel) (by decide +kernel)
set_option maxRecDepth 20000 in
theorem gX5_bears_X5_goMinute : GoodIn wsX5_bears (wsV RX5 127 RX5 yX5_goMinute wsX5_goMinute) := goodIn_app (goodIn_of _ (by decide +kernel)) ggX5_bears_X5_goMinute
theorem dX5_bears_0 : decode cX5_bears 0 = .ok (.aload_n 0, 1) := by decide +kernel
theorem dX5_bears_1 : decode cX5_bears 1 = .ok (.iconst 0, 1) := by decide +kernel
theorem dX5_bears_2 : decode cX5_bears 2 = .ok (.putfield 57, 3) := by decide +kernel
theorem dX5_bears_5 : decode cX5_bears 5 = .ok (.aload_n 0, 1) := by decide +kernel
theorem dX5_bears_6 : decode cX5_bears 6 = .ok (.iload_n 1, 1) := by decide +kernel
theorem dX5_bears_7 : decode cX5_bears 7 = .ok (.invokevirtual 105, 3) := by decide +kernel
theorem dX5_bears_10 : decode cX5_bears 10 = .ok (.ifCond .eq 5, 3) := by decide +kernel
theorem dX5_bears_13 : decode cX5_bears 13 = .ok (.iconst (-1), 1) := by decide +kernel
theorem dX5_bears_14 : decode cX5_bears 14 = .ok (.ireturn, 1) := by decide +kernel
theorem dX5_bears_15 : decode cX5_bears 15 = .ok (.aload_n 0, 1) := by decide +kernel
theorem dX5_bears_16 : decode cX5_bears 16 = .ok (.getfield 32, 3) := by decide +kernel
theorem dX5_bears_19 : decode cX5_bears 19 = .ok (.bipush 12, 2) := by decide +kernel
theorem dX5_bears_21 : decode cX5_bears 21 = .ok (.iaload, 1) := by decide +kernel
theorem dX5_bears_22 : decode cX5_bears 22 = .ok (.iload_n 1, 1) := by decide +kernel
theorem dX5_bears_23 : decode cX5_bears 23 = .ok (.invokestatic 113, 3) := by decide +kernel
theorem dX5_bears_26 : decode cX5_bears 26 = .ok (.ifCond .eq 6, 3) := by decide +kernel
theorem dX5_bears_29 : decode cX5_bears 29 = .ok (.bipush (-3), 2) := by decide +kernel
theorem dX5_bears_31 : decode cX5_bears 31 = .ok (.ireturn, 1) := by decide +kernel
theorem dX5_bears_32 : decode cX5_bears 32 = .ok (.aload_n 0, 1) := by decide +kernel
theorem dX5_bears_33 : decode cX5_bears 33 = .ok (.invokevirtual 148, 3) := by decide +kernel
theorem dX5_bears_36 : decode cX5_bears 36 = .ok (.iconst 1, 1) := by decide +kernel
theorem dX5_bears_37 : decode cX5_bears 37 = .ok (.istore_n 2, 1) := by decide +kernel
theorem dX5_bears_38 : decode cX5_bears 38 = .ok (.aload_n 0, 1) := by decide +kernel
theorem dX5_bears_39 : decode cX5_bears 39 = .ok (.getfield 35, 3) := by decide +kernel
theorem dX5_bears_42 : decode cX5_bears 42 = .ok (.bipush 11, 2) := by decide +kernel
theorem dX5_bears_44 : decode cX5_bears 44 = .ok (.iaload, 1) := by decide +kernel
theorem dX5_bears_45 : decode cX5_bears 45 = .ok (.aload_n 0, 1) := by decide +kernel
theorem dX5_bears_46 : decode cX5_bears 46 = .ok (.getfield 13, 3) := by decide +kernel
theorem dX5_bears_49 : decode cX5_bears 49 = .ok (.if_icmp .ge 32, 3) := by decide +kernel
theorem dX5_bears_52 : decode cX5_bears 52 = .ok (.aload_n 0, 1) := by decide +kernel
theorem dX5_bears_53 : decode cX5_bears 53 = .ok (.aload_n 0, 1) := by decide +kernel
theorem dX5_bears_54 : decode cX5_bears 54 = .ok (.getfield 35, 3) := by decide +kernel
theorem dX5_bears_57 : decode cX5_bears 57 = .ok (.iconst 0, 1) := by decide +kernel
theorem dX5_bears_58 : decode cX5_bears 58 = .ok (.invokevirtual 127, 3) := by decide +kernel
theorem dX5_bears_61 : decode cX5_bears 61 = .ok (.pop, 1) := by decide +kernel
theorem dX5_bears_62 : decode cX5_bears 62 = .ok (.aload_n 0, 1) := by decide +kernel
theorem dX5_bears_63 : decode cX5_bears 63 = .ok (.getfield 121, 3) := by decide +kernel
theorem dX5_bears_66 : decode cX5_bears 66 = .ok (.iload_n 1, 1) := by decide +kernel
theorem dX5_bears_67 : decode cX5_bears 67 = .ok (.invokestatic 113, 3) := by decide +kernel
theorem dX5_bears_70 : decode cX5_bears 70 = .ok (.ifCond .eq 5, 3) := by decide +kernel
theorem dX5_bears_73 : decode cX5_bears 73 = .ok (.iload_n 2, 1) := by decide +kernel
theorem dX5_bears_74 : decode cX5_bears 74 = .ok (.ireturn, 1) := by decide +kernel
theorem dX5_bears_75 : decode cX5_bears 75 = .ok (.iinc 2 1, 3) := by decide +kernel
theorem dX5_bears_78 : decode cX5_bears 78 = .ok (.goto (-40), 3) := by decide +kernel
theorem dX5_bears_81 : decode cX5_bears 81 = .ok (.bipush (-9), 2) := by decide +kernel
theorem dX5_bears_83 : decode cX5_bears 83 = .ok (.ireturn, 1) := by decide +kernel
theorem dX5_ten_0 : decode cX5_ten 0 = .ok (.iconst 1, 1) := by decide +kernel
theorem dX5_ten_1 : decode cX5_ten 1 = .ok (.istore_n 1, 1) := by decide +kernel
theorem dX5_ten_2 : decode cX5_ten 2 = .ok (.iconst 0, 1) := by decide +kernel
theorem dX5_ten_3 : decode cX5_ten 3 = .ok (.istore_n 2, 1) := by decide +kernel
theorem dX5_ten_4 : decode cX5_ten 4 = .ok (.iload_n 2, 1) := by decide +kernel
theorem dX5_ten_5 : decode cX5_ten 5 = .ok (.iload_n 0, 1) := by decide +kernel
theorem dX5_ten_6 : decode cX5_ten 6 = .ok (.if_icmp .ge 14, 3) := by decide +kernel
theorem dX5_ten_9 : decode cX5_ten 9 = .ok (.iload_n 1, 1) := by decide +kernel
theorem dX5_ten_10 : decode cX5_ten 10 = .ok (.bipush 10, 2) := by decide +kernel
theorem dX5_ten_12 : decode cX5_ten 12 = .ok (.imul, 1) := by decide +kernel
theorem dX5_ten_13 : decode cX5_ten 13 = .ok (.istore_n 1, 1) := by decide +kernel
theorem dX5_ten_14 : decode cX5_ten 14 = .ok (.iinc 2 1, 3) := by decide +kernel
theorem dX5_ten_17 : decode cX5_ten 17 = .ok (.goto (-13), 3) := by decide +kernel
theorem dX5_ten_20 : decode cX5_ten 20 = .ok (.iload_n 1, 1) := by decide +kernel
theorem dX5_ten_21 : decode cX5_ten 21 = .ok (.ireturn, 1) := by decide +kernel
set_option maxRecDepth 20000 in
theorem ggX5_still_X5_in : GoodIn wsX5_still wsX5_in := goodIn_r _ [7] (by decide +kernel) (by decide +kernel)
set_option maxRecDepth 20000 in
theorem gX5_still_X5_in : GoodIn wsX5_still (va_wsS RX5 63 yX5_in wsX5_in) := goodIn_app (goodIn_of _ (by decide +kernel)) ggX5_still_X5_in
set_option maxRecDepth 20000 in
theorem ggX5_still_X5_ten : GoodIn wsX5_still wsX5_ten := goodIn_r _ [10] (by decide +kernel) (by decide +kernel)
set_option maxRecDepth 20000 in
theorem gX5_still_X5_ten : GoodIn wsX5_still (va_wsS RX5 190 yX5_ten wsX5_ten) := goodIn_app (goodIn_of _ (by decide +kernel)) ggX5_still_X5_ten
set_option maxRecDepth 20000 in
theorem ggX5_still_X5_has : GoodIn wsX5_still wsX5_has := goodIn_r _ [13] (by decide +kernel) (by decide +kernel)
set_option maxRecDepth 20000 in
theorem gX5_still_X5_has : GoodIn wsX5_still (va_wsS RX5 113 yX5_has wsX5_has) := goodIn_app (goodIn_of _ (by decide +kernel)) ggX5_still_X5_has
set_option maxRecDepth 20000 in
theorem ggX5_still_X5_fraction : GoodIn wsX5_still wsX5_fraction := goodIn_r _ [16, 17, 18, 6, 19] (by decide +kernel) (by decide +kernel)
set_option maxRecDepth 20000 in
theorem gX5_still_X5_fraction : GoodIn wsX5_still (va_wsS RX5 182 yX5_fraction wsX5_fraction) := goodIn_app (goodIn_of _ (by decide +kernel)) ggX5_still_X5_fraction
theorem dX5_still_0 : decode cX5_still 0 = .ok (.aload_n 0, 1) := by decide +kernel
theorem dX5_still_1 : decode cX5_still 1 = .ok (.iconst 0, 1) := by decide +kernel
theorem dX5_still_2 : decode cX5_still 2 = .ok (.putfield 57, 3) := by decide +kernel
theorem dX5_still_5 : decode cX5_still 5 = .ok (.iload_n 1, 1) := by decide +kernel
theorem dX5_still_6 : decode cX5_still 6 = .ok (.i2l, 1) := by decide +kernel
theorem dX5_still_7 : decode cX5_still 7 = .ok (.lconst 1, 1) := by decide +kernel
theorem dX5_still_8 : decode cX5_still 8 = .ok (.ldc2_w 186, 3) := by decide +kernel
theorem dX5_still_11 : decode cX5_still 11 = .ok (.invokestatic 63, 3) := by decide +kernel
theorem dX5_still_14 : decode cX5_still 14 = .ok (.ifCond .eq 43, 3) := by decide +kernel
theorem dX5_still_17 : decode cX5_still 17 = .ok (.iload_n 2, 1) := by decide +kernel
theorem dX5_still_18 : decode cX5_still 18 = .ok (.i2l, 1) := by decide +kernel
theorem dX5_still_19 : decode cX5_still 19 = .ok (.lconst 0, 1) := by decide +kernel
theorem dX5_still_20 : decode cX5_still 20 = .ok (.iconst 1, 1) := by decide +kernel
theorem dX5_still_21 : decode cX5_still 21 = .ok (.iload_n 1, 1) := by decide +kernel
theorem dX5_still_22 : decode cX5_still 22 = .ok (.ishl, 1) := by decide +kernel
theorem dX5_still_23 : decode cX5_still 23 = .ok (.iconst 1, 1) := by decide +kernel
theorem dX5_still_24 : decode cX5_still 24 = .ok (.isub, 1) := by decide +kernel
theorem dX5_still_25 : decode cX5_still 25 = .ok (.i2l, 1) := by decide +kernel
theorem dX5_still_26 : decode cX5_still 26 = .ok (.invokestatic 63, 3) := by decide +kernel
theorem dX5_still_29 : decode cX5_still 29 = .ok (.ifCond .eq 28, 3) := by decide +kernel
theorem dX5_still_32 : decode cX5_still 32 = .ok (.iload_n 3, 1) := by decide +kernel
theorem dX5_still_33 : decode cX5_still 33 = .ok (.i2l, 1) := by decide +kernel
theorem dX5_still_34 : decode cX5_still 34 = .ok (.lconst 0, 1) := by decide +kernel
theorem dX5_still_35 : decode cX5_still 35 = .ok (.ldc2_w 188, 3) := by decide +kernel
theorem dX5_still_38 : decode cX5_still 38 = .ok (.invokestatic 63, 3) := by decide +kernel
theorem dX5_still_41 : decode cX5_still 41 = .ok (.ifCond .eq 16, 3) := by decide +kernel
theorem dX5_still_44 : decode cX5_still 44 = .ok (.iload 4, 2) := by decide +kernel
theorem dX5_still_46 : decode cX5_still 46 = .ok (.i2l, 1) := by decide +kernel
theorem dX5_still_47 : decode cX5_still 47 = .ok (.lconst 0, 1) := by decide +kernel
theorem dX5_still_48 : decode cX5_still 48 = .ok (.ldc2_w 188, 3) := by decide +kernel
theorem dX5_still_51 : decode cX5_still 51 = .ok (.invokestatic 63, 3) := by decide +kernel
theorem dX5_still_54 : decode cX5_still 54 = .ok (.ifCond .ne 6, 3) := by decide +kernel
theorem dX5_still_57 : decode cX5_still 57 = .ok (.bipush (-2), 2) := by decide +kernel
theorem dX5_still_59 : decode cX5_still 59 = .ok (.ireturn, 1) := by decide +kernel
theorem dX5_still_60 : decode cX5_still 60 = .ok (.iconst 1, 1) := by decide +kernel
theorem dX5_still_61 : decode cX5_still 61 = .ok (.istore 6, 2) := by decide +kernel
theorem dX5_still_63 : decode cX5_still 63 = .ok (.iconst 0, 1) := by decide +kernel
theorem dX5_still_64 : decode cX5_still 64 = .ok (.istore 7, 2) := by decide +kernel
theorem dX5_still_66 : decode cX5_still 66 = .ok (.iconst 0, 1) := by decide +kernel
theorem dX5_still_67 : decode cX5_still 67 = .ok (.istore 8, 2) := by decide +kernel
theorem dX5_still_69 : decode cX5_still 69 = .ok (.iload 8, 2) := by decide +kernel
theorem dX5_still_71 : decode cX5_still 71 = .ok (.iload_n 1, 1) := by decide +kernel
theorem dX5_still_72 : decode cX5_still 72 = .ok (.if_icmp .ge 74, 3) := by decide +kernel
theorem dX5_still_75 : decode cX5_still 75 = .ok (.iload_n 2, 1) := by decide +kernel
theorem dX5_still_76 : decode cX5_still 76 = .ok (.iload 8, 2) := by decide +kernel
theorem dX5_still_78 : decode cX5_still 78 = .ok (.ishr, 1) := by decide +kernel
theorem dX5_still_79 : decode cX5_still 79 = .ok (.ifCond .ne 11, 3) := by decide +kernel
theorem dX5_still_82 : decode cX5_still 82 = .ok (.iload 6, 2) := by decide +kernel
theorem dX5_still_84 : decode cX5_still 84 = .ok (.iload 4, 2) := by decide +kernel
theorem dX5_still_86 : decode cX5_still 86 = .ok (.imul, 1) := by decide +kernel
theorem dX5_still_87 : decode cX5_still 87 = .ok (.goto 4, 3) := by decide +kernel
theorem dX5_still_90 : decode cX5_still 90 = .ok (.iconst 0, 1) := by decide +kernel
theorem dX5_still_91 : decode cX5_still 91 = .ok (.istore 9, 2) := by decide +kernel
theorem dX5_still_93 : decode cX5_still 93 = .ok (.iload 7, 2) := by decide +kernel
theorem dX5_still_95 : decode cX5_still 95 = .ok (.iload 9, 2) := by decide +kernel
theorem dX5_still_97 : decode cX5_still 97 = .ok (.iconst 2, 1) := by decide +kernel
theorem dX5_still_98 : decode cX5_still 98 = .ok (.iload_n 1, 1) := by decide +kernel
theorem dX5_still_99 : decode cX5_still 99 = .ok (.iload 8, 2) := by decide +kernel
theorem dX5_still_101 : decode cX5_still 101 = .ok (.isub, 1) := by decide +kernel
theorem dX5_still_102 : decode cX5_still 102 = .ok (.imul, 1) := by decide +kernel
theorem dX5_still_103 : decode cX5_still 103 = .ok (.iconst 1, 1) := by decide +kernel
theorem dX5_still_104 : decode cX5_still 104 = .ok (.isub, 1) := by decide +kernel
theorem dX5_still_105 : decode cX5_still 105 = .ok (.invokestatic 190, 3) := by decide +kernel
theorem dX5_still_108 : decode cX5_still 108 = .ok (.imul, 1) := by decide +kernel
theorem dX5_still_109 : decode cX5_still 109 = .ok (.iadd, 1) := by decide +kernel
theorem dX5_still_110 : decode cX5_still 110 = .ok (.istore 7, 2) := by decide +kernel
theorem dX5_still_112 : decode cX5_still 112 = .ok (.iload 6, 2) := by decide +kernel
theorem dX5_still_114 : decode cX5_still 114 = .ok (.bipush 10, 2) := by decide +kernel
theorem dX5_still_116 : decode cX5_still 116 = .ok (.iload 4, 2) := by decide +kernel
theorem dX5_still_118 : decode cX5_still 118 = .ok (.isub, 1) := by decide +kernel
theorem dX5_still_119 : decode cX5_still 119 = .ok (.iload_n 2, 1) := by decide +kernel
theorem dX5_still_120 : decode cX5_still 120 = .ok (.iload 8, 2) := by decide +kernel
theorem dX5_still_122 : decode cX5_still 122 = .ok (.invokestatic 113, 3) := by decide +kernel
theorem dX5_still_125 : decode cX5_still 125 = .ok (.ifCond .eq 7, 3) := by decide +kernel
theorem dX5_still_128 : decode cX5_still 128 = .ok (.iload_n 3, 1) := by decide +kernel
theorem dX5_still_129 : decode cX5_still 129 = .ok (.goto 7, 3) := by decide +kernel
theorem dX5_still_132 : decode cX5_still 132 = .ok (.bipush 10, 2) := by decide +kernel
theorem dX5_still_134 : decode cX5_still 134 = .ok (.iload_n 3, 1) := by decide +kernel
theorem dX5_still_135 : decode cX5_still 135 = .ok (.isub, 1) := by decide +kernel
theorem dX5_still_136 : decode cX5_still 136 = .ok (.imul, 1) := by decide +kernel
theorem dX5_still_137 : decode cX5_still 137 = .ok (.imul, 1) := by decide +kernel
theorem dX5_still_138 : decode cX5_still 138 = .ok (.istore 6, 2) := by decide +kernel
theorem dX5_still_140 : decode cX5_still 140 = .ok (.iinc 8 1, 3) := by decide +kernel
theorem dX5_still_143 : decode cX5_still 143 = .ok (.goto (-74), 3) := by decide +kernel
theorem dX5_still_146 : decode cX5_still 146 = .ok (.iload 7, 2) := by decide +kernel
theorem dX5_still_148 : decode cX5_still 148 = .ok (.iload 6, 2) := by decide +kernel
theorem dX5_still_150 : decode cX5_still 150 = .ok (.iadd, 1) := by decide +kernel
theorem dX5_still_151 : decode cX5_still 151 = .ok (.istore 7, 2) := by decide +kernel
theorem dX5_still_153 : decode cX5_still 153 = .ok (.iload 7, 2) := by decide +kernel
theorem dX5_still_155 : decode cX5_still 155 = .ok (.ifCond .ne 8, 3) := by decide +kernel
theorem dX5_still_158 : decode cX5_still 158 = .ok (.bipush (-3), 2) := by decide +kernel
theorem dX5_still_160 : decode cX5_still 160 = .ok (.goto 12, 3) := by decide +kernel
theorem dX5_still_163 : decode cX5_still 163 = .ok (.iload 6, 2) := by decide +kernel
theorem dX5_still_165 : decode cX5_still 165 = .ok (.iload 7, 2) := by decide +kernel
theorem dX5_still_167 : decode cX5_still 167 = .ok (.iload 5, 2) := by decide +kernel
theorem dX5_still_169 : decode cX5_still 169 = .ok (.invokestatic 182, 3) := by decide +kernel
theorem dX5_still_172 : decode cX5_still 172 = .ok (.ireturn, 1) := by decide +kernel
set_option maxRecDepth 20000 in
theorem ggX5_pebbles_X5_in : GoodIn wsX5_pebbles wsX5_in := goodIn_r _ [7] (by decide +kernel) (by decide +kernel)
set_option maxRecDepth 20000 in
theorem gX5_pebbles_X5_in : GoodIn wsX5_pebbles (va_wsS RX5 63 yX5_in wsX5_in) := goodIn_app (goodIn_of _ (by decide +kernel)) ggX5_pebbles_X5_in
theorem dX5_pebbles_0 : decode cX5_pebbles 0 = .ok (.aload_n 0, 1) := by decide +kernel
theorem dX5_pebbles_1 : decode cX5_pebbles 1 = .ok (.iconst 0, 1) := by decide +kernel
theorem dX5_pebbles_2 : decode cX5_pebbles 2 = .ok (.putfield 57, 3) := by decide +kernel
theorem dX5_pebbles_5 : decode cX5_pebbles 5 = .ok (.iload_n 1, 1) := by decide +kernel
theorem dX5_pebbles_6 : decode cX5_pebbles 6 = .ok (.i2l, 1) := by decide +kernel
theorem dX5_pebbles_7 : decode cX5_pebbles 7 = .ok (.lconst 1, 1) := by decide +kernel
theorem dX5_pebbles_8 : decode cX5_pebbles 8 = .ok (.ldc2_w 138, 3) := by decide +kernel
theorem dX5_pebbles_11 : decode cX5_pebbles 11 = .ok (.invokestatic 63, 3) := by decide +kernel
theorem dX5_pebbles_14 : decode cX5_pebbles 14 = .ok (.ifCond .eq 15, 3) := by decide +kernel
theorem dX5_pebbles_17 : decode cX5_pebbles 17 = .ok (.iload_n 2, 1) := by decide +kernel
theorem dX5_pebbles_18 : decode cX5_pebbles 18 = .ok (.i2l, 1) := by decide +kernel
theorem dX5_pebbles_19 : decode cX5_pebbles 19 = .ok (.lconst 0, 1) := by decide +kernel
theorem dX5_pebbles_20 : decode cX5_pebbles 20 = .ok (.ldc2_w 193, 3) := by decide +kernel
theorem dX5_pebbles_23 : decode cX5_pebbles 23 = .ok (.invokestatic 63, 3) := by decide +kernel
theorem dX5_pebbles_26 : decode cX5_pebbles 26 = .ok (.ifCond .ne 6, 3) := by decide +kernel
theorem dX5_pebbles_29 : decode cX5_pebbles 29 = .ok (.bipush (-2), 2) := by decide +kernel
theorem dX5_pebbles_31 : decode cX5_pebbles 31 = .ok (.ireturn, 1) := by decide +kernel
theorem dX5_pebbles_32 : decode cX5_pebbles 32 = .ok (.iload_n 2, 1) := by decide +kernel
theorem dX5_pebbles_33 : decode cX5_pebbles 33 = .ok (.ifCond .ne 5, 3) := by decide +kernel
theorem dX5_pebbles_36 : decode cX5_pebbles 36 = .ok (.iconst 0, 1) := by decide +kernel
theorem dX5_pebbles_37 : decode cX5_pebbles 37 = .ok (.ireturn, 1) := by decide +kernel
theorem dX5_pebbles_38 : decode cX5_pebbles 38 = .ok (.iload_n 1, 1) := by decide +kernel
theorem dX5_pebbles_39 : decode cX5_pebbles 39 = .ok (.iconst 1, 1) := by decide +kernel
theorem dX5_pebbles_40 : decode cX5_pebbles 40 = .ok (.if_icmp .ne 6, 3) := by decide +kernel
theorem dX5_pebbles_43 : decode cX5_pebbles 43 = .ok (.bipush (-9), 2) := by decide +kernel
theorem dX5_pebbles_45 : decode cX5_pebbles 45 = .ok (.ireturn, 1) := by decide +kernel
theorem dX5_pebbles_46 : decode cX5_pebbles 46 = .ok (.iload_n 3, 1) := by decide +kernel
theorem dX5_pebbles_47 : decode cX5_pebbles 47 = .ok (.ifCond .eq 7, 3) := by decide +kernel
theorem dX5_pebbles_50 : decode cX5_pebbles 50 = .ok (.iconst 1, 1) := by decide +kernel
theorem dX5_pebbles_51 : decode cX5_pebbles 51 = .ok (.goto 4, 3) := by decide +kernel
theorem dX5_pebbles_54 : decode cX5_pebbles 54 = .ok (.iconst 0, 1) := by decide +kernel
theorem dX5_pebbles_55 : decode cX5_pebbles 55 = .ok (.istore 4, 2) := by decide +kernel
theorem dX5_pebbles_57 : decode cX5_pebbles 57 = .ok (.iconst 1, 1) := by decide +kernel
theorem dX5_pebbles_58 : decode cX5_pebbles 58 = .ok (.istore 5, 2) := by decide +kernel
theorem dX5_pebbles_60 : decode cX5_pebbles 60 = .ok (.iload 5, 2) := by decide +kernel
theorem dX5_pebbles_62 : decode cX5_pebbles 62 = .ok (.iload_n 2, 1) := by decide +kernel
theorem dX5_pebbles_63 : decode cX5_pebbles 63 = .ok (.iconst 1, 1) := by decide +kernel
theorem dX5_pebbles_64 : decode cX5_pebbles 64 = .ok (.iadd, 1) := by decide +kernel
theorem dX5_pebbles_65 : decode cX5_pebbles 65 = .ok (.if_icmp .ge 15, 3) := by decide +kernel
theorem dX5_pebbles_68 : decode cX5_pebbles 68 = .ok (.iinc 4 1, 3) := by decide +kernel
theorem dX5_pebbles_71 : decode cX5_pebbles 71 = .ok (.iload 5, 2) := by decide +kernel
theorem dX5_pebbles_73 : decode cX5_pebbles 73 = .ok (.iload_n 1, 1) := by decide +kernel
theorem dX5_pebbles_74 : decode cX5_pebbles 74 = .ok (.imul, 1) := by decide +kernel
theorem dX5_pebbles_75 : decode cX5_pebbles 75 = .ok (.istore 5, 2) := by decide +kernel
theorem dX5_pebbles_77 : decode cX5_pebbles 77 = .ok (.goto (-17), 3) := by decide +kernel
theorem dX5_pebbles_80 : decode cX5_pebbles 80 = .ok (.iload 4, 2) := by decide +kernel
theorem dX5_pebbles_82 : decode cX5_pebbles 82 = .ok (.ireturn, 1) := by decide +kernel
set_option maxRecDepth 20000 in
theorem ggX5_tell_X5_in : GoodIn wsX5_tell wsX5_in := goodIn_r _ [9] (by decide +kernel) (by decide +kernel)
set_option maxRecDepth 20000 in
theorem gX5_tell_X5_in : GoodIn wsX5_tell (va_wsS RX5 63 yX5_in wsX5_in) := goodIn_app (goodIn_of _ (by decide +kernel)) ggX5_tell_X5_in
theorem dX5_tell_0 : decode cX5_tell 0 = .ok (.aload_n 0, 1) := by decide +kernel
theorem dX5_tell_1 : decode cX5_tell 1 = .ok (.iconst 0, 1) := by decide +kernel
theorem dX5_tell_2 : decode cX5_tell 2 = .ok (.putfield 57, 3) := by decide +kernel
theorem dX5_tell_5 : decode cX5_tell 5 = .ok (.iload_n 1, 1) := by decide +kernel
theorem dX5_tell_6 : decode cX5_tell 6 = .ok (.i2l, 1) := by decide +kernel
theorem dX5_tell_7 : decode cX5_tell 7 = .ok (.lconst 0, 1) := by decide +kernel
theorem dX5_tell_8 : decode cX5_tell 8 = .ok (.ldc2_w 195, 3) := by decide +kernel
theorem dX5_tell_11 : decode cX5_tell 11 = .ok (.invokestatic 63, 3) := by decide +kernel
theorem dX5_tell_14 : decode cX5_tell 14 = .ok (.ifCond .ne 6, 3) := by decide +kernel
theorem dX5_tell_17 : decode cX5_tell 17 = .ok (.bipush (-2), 2) := by decide +kernel
theorem dX5_tell_19 : decode cX5_tell 19 = .ok (.ireturn, 1) := by decide +kernel
theorem dX5_tell_20 : decode cX5_tell 20 = .ok (.aload_n 0, 1) := by decide +kernel
theorem dX5_tell_21 : decode cX5_tell 21 = .ok (.getfield 102, 3) := by decide +kernel
theorem dX5_tell_24 : decode cX5_tell 24 = .ok (.bipush 6, 2) := by decide +kernel
theorem dX5_tell_26 : decode cX5_tell 26 = .ok (.if_icmp .ne 6, 3) := by decide +kernel
theorem dX5_tell_29 : decode cX5_tell 29 = .ok (.bipush (-4), 2) := by decide +kernel
theorem dX5_tell_31 : decode cX5_tell 31 = .ok (.ireturn, 1) := by decide +kernel
theorem dX5_tell_32 : decode cX5_tell 32 = .ok (.aload_n 0, 1) := by decide +kernel
theorem dX5_tell_33 : decode cX5_tell 33 = .ok (.getfield 48, 3) := by decide +kernel
theorem dX5_tell_36 : decode cX5_tell 36 = .ok (.aload_n 0, 1) := by decide +kernel
theorem dX5_tell_37 : decode cX5_tell 37 = .ok (.getfield 102, 3) := by decide +kernel
theorem dX5_tell_40 : decode cX5_tell 40 = .ok (.iload_n 1, 1) := by decide +kernel
theorem dX5_tell_41 : decode cX5_tell 41 = .ok (.iastore, 1) := by decide +kernel
theorem dX5_tell_42 : decode cX5_tell 42 = .ok (.aload_n 0, 1) := by decide +kernel
theorem dX5_tell_43 : decode cX5_tell 43 = .ok (.getfield 51, 3) := by decide +kernel
theorem dX5_tell_46 : decode cX5_tell 46 = .ok (.aload_n 0, 1) := by decide +kernel
theorem dX5_tell_47 : decode cX5_tell 47 = .ok (.getfield 102, 3) := by decide +kernel
theorem dX5_tell_50 : decode cX5_tell 50 = .ok (.iload_n 2, 1) := by decide +kernel
theorem dX5_tell_51 : decode cX5_tell 51 = .ok (.bastore, 1) := by decide +kernel
theorem dX5_tell_52 : decode cX5_tell 52 = .ok (.aload_n 0, 1) := by decide +kernel
theorem dX5_tell_53 : decode cX5_tell 53 = .ok (.dup, 1) := by decide +kernel
theorem dX5_tell_54 : decode cX5_tell 54 = .ok (.getfield 102, 3) := by decide +kernel
theorem dX5_tell_57 : decode cX5_tell 57 = .ok (.iconst 1, 1) := by decide +kernel
theorem dX5_tell_58 : decode cX5_tell 58 = .ok (.iadd, 1) := by decide +kernel
theorem dX5_tell_59 : decode cX5_tell 59 = .ok (.putfield 102, 3) := by decide +kernel
theorem dX5_tell_62 : decode cX5_tell 62 = .ok (.aload_n 0, 1) := by decide +kernel
theorem dX5_tell_63 : decode cX5_tell 63 = .ok (.getfield 102, 3) := by decide +kernel
theorem dX5_tell_66 : decode cX5_tell 66 = .ok (.ireturn, 1) := by decide +kernel
theorem dX5_untell_0 : decode cX5_untell 0 = .ok (.aload_n 0, 1) := by decide +kernel
theorem dX5_untell_1 : decode cX5_untell 1 = .ok (.iconst 0, 1) := by decide +kernel
theorem dX5_untell_2 : decode cX5_untell 2 = .ok (.putfield 57, 3) := by decide +kernel
theorem dX5_untell_5 : decode cX5_untell 5 = .ok (.aload_n 0, 1) := by decide +kernel
theorem dX5_untell_6 : decode cX5_untell 6 = .ok (.getfield 102, 3) := by decide +kernel
theorem dX5_untell_9 : decode cX5_untell 9 = .ok (.istore_n 1, 1) := by decide +kernel
theorem dX5_untell_10 : decode cX5_untell 10 = .ok (.aload_n 0, 1) := by decide +kernel
theorem dX5_untell_11 : decode cX5_untell 11 = .ok (.iconst 0, 1) := by decide +kernel
theorem dX5_untell_12 : decode cX5_untell 12 = .ok (.putfield 102, 3) := by decide +kernel
theorem dX5_untell_15 : decode cX5_untell 15 = .ok (.iload_n 1, 1) := by decide +kernel
theorem dX5_untell_16 : decode cX5_untell 16 = .ok (.ireturn, 1) := by decide +kernel
theorem dX5_letGo_0 : decode cX5_letGo 0 = .ok (.aload_n 0, 1) := by decide +kernel
theorem dX5_letGo_1 : decode cX5_letGo 1 = .ok (.iconst 0, 1) := by decide +kernel
theorem dX5_letGo_2 : decode cX5_letGo 2 = .ok (.putfield 57, 3) := by decide +kernel
theorem dX5_letGo_5 : decode cX5_letGo 5 = .ok (.iconst 0, 1) := by decide +kernel
theorem dX5_letGo_6 : decode cX5_letGo 6 = .ok (.istore_n 2, 1) := by decide +kernel
theorem dX5_letGo_7 : decode cX5_letGo 7 = .ok (.iconst 0, 1) := by decide +kernel
theorem dX5_letGo_8 : decode cX5_letGo 8 = .ok (.istore_n 3, 1) := by decide +kernel
theorem dX5_letGo_9 : decode cX5_letGo 9 = .ok (.iload_n 3, 1) := by decide +kernel
theorem dX5_letGo_10 : decode cX5_letGo 10 = .ok (.bipush 9, 2) := by decide +kernel
theorem dX5_letGo_12 : decode cX5_letGo 12 = .ok (.if_icmp .gt 102, 3) := by decide +kernel
theorem dX5_letGo_15 : decode cX5_letGo 15 = .ok (.iconst 1, 1) := by decide +kernel
theorem dX5_letGo_16 : decode cX5_letGo 16 = .ok (.istore 4, 2) := by decide +kernel
theorem dX5_letGo_18 : decode cX5_letGo 18 = .ok (.iconst 0, 1) := by decide +kernel
theorem dX5_letGo_19 : decode cX5_letGo 19 = .ok (.istore 5, 2) := by decide +kernel
theorem dX5_letGo_21 : decode cX5_letGo 21 = .ok (.iload 5, 2) := by decide +kernel
theorem dX5_letGo_23 : decode cX5_letGo 23 = .ok (.aload_n 0, 1) := by decide +kernel
theorem dX5_letGo_24 : decode cX5_letGo 24 = .ok (.getfield 102, 3) := by decide +kernel
theorem dX5_letGo_27 : decode cX5_letGo 27 = .ok (.if_icmp .ge 66, 3) := by decide +kernel
theorem dX5_letGo_30 : decode cX5_letGo 30 = .ok (.aload_n 0, 1) := by decide +kernel
theorem dX5_letGo_31 : decode cX5_letGo 31 = .ok (.getfield 48, 3) := by decide +kernel
theorem dX5_letGo_34 : decode cX5_letGo 34 = .ok (.iload 5, 2) := by decide +kernel
theorem dX5_letGo_36 : decode cX5_letGo 36 = .ok (.iaload, 1) := by decide +kernel
theorem dX5_letGo_37 : decode cX5_letGo 37 = .ok (.iload_n 3, 1) := by decide +kernel
theorem dX5_letGo_38 : decode cX5_letGo 38 = .ok (.if_icmp .ge 7, 3) := by decide +kernel
theorem dX5_letGo_41 : decode cX5_letGo 41 = .ok (.iconst 1, 1) := by decide +kernel
theorem dX5_letGo_42 : decode cX5_letGo 42 = .ok (.goto 4, 3) := by decide +kernel
theorem dX5_letGo_45 : decode cX5_letGo 45 = .ok (.iconst 0, 1) := by decide +kernel
theorem dX5_letGo_46 : decode cX5_letGo 46 = .ok (.istore 6, 2) := by decide +kernel
theorem dX5_letGo_48 : decode cX5_letGo 48 = .ok (.iload 4, 2) := by decide +kernel
theorem dX5_letGo_50 : decode cX5_letGo 50 = .ok (.ifCond .eq 34, 3) := by decide +kernel
theorem dX5_letGo_53 : decode cX5_letGo 53 = .ok (.aload_n 0, 1) := by decide +kernel
theorem dX5_letGo_54 : decode cX5_letGo 54 = .ok (.getfield 51, 3) := by decide +kernel
theorem dX5_letGo_57 : decode cX5_letGo 57 = .ok (.iload 5, 2) := by decide +kernel
theorem dX5_letGo_59 : decode cX5_letGo 59 = .ok (.baload, 1) := by decide +kernel
theorem dX5_letGo_60 : decode cX5_letGo 60 = .ok (.ifCond .eq 11, 3) := by decide +kernel
theorem dX5_letGo_63 : decode cX5_letGo 63 = .ok (.iload 6, 2) := by decide +kernel
theorem dX5_letGo_65 : decode cX5_letGo 65 = .ok (.ifCond .eq 19, 3) := by decide +kernel
theorem dX5_letGo_68 : decode cX5_letGo 68 = .ok (.goto 12, 3) := by decide +kernel
theorem dX5_letGo_71 : decode cX5_letGo 71 = .ok (.iload 6, 2) := by decide +kernel
theorem dX5_letGo_73 : decode cX5_letGo 73 = .ok (.ifCond .eq 7, 3) := by decide +kernel
theorem dX5_letGo_76 : decode cX5_letGo 76 = .ok (.iload_n 1, 1) := by decide +kernel
theorem dX5_letGo_77 : decode cX5_letGo 77 = .ok (.ifCond .ne 7, 3) := by decide +kernel
theorem dX5_letGo_80 : decode cX5_letGo 80 = .ok (.iconst 1, 1) := by decide +kernel
theorem dX5_letGo_81 : decode cX5_letGo 81 = .ok (.goto 4, 3) := by decide +kernel
theorem dX5_letGo_84 : decode cX5_letGo 84 = .ok (.iconst 0, 1) := by decide +kernel
theorem dX5_letGo_85 : decode cX5_letGo 85 = .ok (.istore 4, 2) := by decide +kernel
theorem dX5_letGo_87 : decode cX5_letGo 87 = .ok (.iinc 5 1, 3) := by decide +kernel
theorem dX5_letGo_90 : decode cX5_letGo 90 = .ok (.goto (-69), 3) := by decide +kernel
theorem dX5_letGo_93 : decode cX5_letGo 93 = .ok (.iload_n 2, 1) := by decide +kernel
theorem dX5_letGo_94 : decode cX5_letGo 94 = .ok (.iload 4, 2) := by decide +kernel
theorem dX5_letGo_96 : decode cX5_letGo 96 = .ok (.ifCond .eq 9, 3) := by decide +kernel
theorem dX5_letGo_99 : decode cX5_letGo 99 = .ok (.iconst 1, 1) := by decide +kernel
theorem dX5_letGo_100 : decode cX5_letGo 100 = .ok (.iload_n 3, 1) := by decide +kernel
theorem dX5_letGo_101 : decode cX5_letGo 101 = .ok (.ishl, 1) := by decide +kernel
theorem dX5_letGo_102 : decode cX5_letGo 102 = .ok (.goto 4, 3) := by decide +kernel
theorem dX5_letGo_105 : decode cX5_letGo 105 = .ok (.iconst 0, 1) := by decide +kernel
theorem dX5_letGo_106 : decode cX5_letGo 106 = .ok (.ior, 1) := by decide +kernel
theorem dX5_letGo_107 : decode cX5_letGo 107 = .ok (.istore_n 2, 1) := by decide +kernel
theorem dX5_letGo_108 : decode cX5_letGo 108 = .ok (.iinc 3 1, 3) := by decide +kernel
theorem dX5_letGo_111 : decode cX5_letGo 111 = .ok (.goto (-102), 3) := by decide +kernel
theorem dX5_letGo_114 : decode cX5_letGo 114 = .ok (.iload_n 2, 1) := by decide +kernel
theorem dX5_letGo_115 : decode cX5_letGo 115 = .ok (.ireturn, 1) := by decide +kernel
set_option maxRecDepth 20000 in
theorem ggX5_link_X5_in : GoodIn wsX5_link wsX5_in := goodIn_r _ [8] (by decide +kernel) (by decide +kernel)
set_option maxRecDepth 20000 in
theorem gX5_link_X5_in : GoodIn wsX5_link (va_wsS RX5 63 yX5_in wsX5_in) := goodIn_app (goodIn_of _ (by decide +kernel)) ggX5_link_X5_in
set_option maxRecDepth 20000 in
theorem ggX5_link_X5_has : GoodIn wsX5_link wsX5_has := goodIn_r _ [11] (by decide +kernel) (by decide +kernel)
set_option maxRecDepth 20000 in
theorem gX5_link_X5_has : GoodIn wsX5_link (va_wsS RX5 113 yX5_has wsX5_has) := goodIn_app (goodIn_of _ (by decide +kernel)) ggX5_link_X5_has
set_option maxRecDepth 20000 in
theorem ggX5_link_X5_ten : GoodIn wsX5_link wsX5_ten := goodIn_r _ [14] (by decide +kernel) (by decide +kernel)
set_option maxRecDepth 20000 in
theorem gX5_link_X5_ten : GoodIn wsX5_link (va_wsS RX5 190 yX5_ten wsX5_ten) := goodIn_app (goodIn_of _ (by decide +kernel)) ggX5_link_X5_ten
set_option maxRecDepth 20000 in
theorem ggX5_link_X5_fraction : GoodIn wsX5_link wsX5_fraction := goodIn_r _ [17, 18, 19, 7, 20] (by decide +kernel) (by decide +kernel)
set_option maxRecDepth 20000 in
theorem gX5_link_X5_fraction : GoodIn wsX5_link (va_wsS RX5 182 yX5_fraction wsX5_fraction) := goodIn_app (goodIn_of _ (by decide +kernel)) ggX5_link_X5_fraction
theorem dX5_link_0 : decode cX5_link 0 = .ok (.aload_n 0, 1) := by decide +kernel
theorem dX5_link_1 : decode cX5_link 1 = .ok (.iconst 0, 1) := by decide +kernel
theorem dX5_link_2 : decode cX5_link 2 = .ok (.putfield 57, 3) := by decide +kernel
theorem dX5_link_5 : decode cX5_link 5 = .ok (.iload_n 1, 1) := by decide +kernel
theorem dX5_link_6 : decode cX5_link 6 = .ok (.i2l, 1) := by decide +kernel
theorem dX5_link_7 : decode cX5_link 7 = .ok (.lconst 0, 1) := by decide +kernel
theorem dX5_link_8 : decode cX5_link 8 = .ok (.ldc2_w 138, 3) := by decide +kernel
theorem dX5_link_11 : decode cX5_link 11 = .ok (.invokestatic 63, 3) := by decide +kernel
theorem dX5_link_14 : decode cX5_link 14 = .ok (.ifCond .eq 27, 3) := by decide +kernel
theorem dX5_link_17 : decode cX5_link 17 = .ok (.iload_n 2, 1) := by decide +kernel
theorem dX5_link_18 : decode cX5_link 18 = .ok (.i2l, 1) := by decide +kernel
theorem dX5_link_19 : decode cX5_link 19 = .ok (.lconst 0, 1) := by decide +kernel
theorem dX5_link_20 : decode cX5_link 20 = .ok (.ldc2_w 188, 3) := by decide +kernel
theorem dX5_link_23 : decode cX5_link 23 = .ok (.invokestatic 63, 3) := by decide +kernel
theorem dX5_link_26 : decode cX5_link 26 = .ok (.ifCond .eq 15, 3) := by decide +kernel
theorem dX5_link_29 : decode cX5_link 29 = .ok (.iload_n 3, 1) := by decide +kernel
theorem dX5_link_30 : decode cX5_link 30 = .ok (.i2l, 1) := by decide +kernel
theorem dX5_link_31 : decode cX5_link 31 = .ok (.lconst 0, 1) := by decide +kernel
theorem dX5_link_32 : decode cX5_link 32 = .ok (.ldc2_w 197, 3) := by decide +kernel
theorem dX5_link_35 : decode cX5_link 35 = .ok (.invokestatic 63, 3) := by decide +kernel
theorem dX5_link_38 : decode cX5_link 38 = .ok (.ifCond .ne 6, 3) := by decide +kernel
theorem dX5_link_41 : decode cX5_link 41 = .ok (.bipush (-2), 2) := by decide +kernel
theorem dX5_link_43 : decode cX5_link 43 = .ok (.ireturn, 1) := by decide +kernel
theorem dX5_link_44 : decode cX5_link 44 = .ok (.iconst 0, 1) := by decide +kernel
theorem dX5_link_45 : decode cX5_link 45 = .ok (.istore 5, 2) := by decide +kernel
theorem dX5_link_47 : decode cX5_link 47 = .ok (.iconst 0, 1) := by decide +kernel
theorem dX5_link_48 : decode cX5_link 48 = .ok (.istore 6, 2) := by decide +kernel
theorem dX5_link_50 : decode cX5_link 50 = .ok (.iload 6, 2) := by decide +kernel
theorem dX5_link_52 : decode cX5_link 52 = .ok (.iconst 1, 1) := by decide +kernel
theorem dX5_link_53 : decode cX5_link 53 = .ok (.iload_n 3, 1) := by decide +kernel
theorem dX5_link_54 : decode cX5_link 54 = .ok (.ishl, 1) := by decide +kernel
theorem dX5_link_55 : decode cX5_link 55 = .ok (.if_icmp .ge 110, 3) := by decide +kernel
theorem dX5_link_58 : decode cX5_link 58 = .ok (.iconst 1, 1) := by decide +kernel
theorem dX5_link_59 : decode cX5_link 59 = .ok (.istore 7, 2) := by decide +kernel
theorem dX5_link_61 : decode cX5_link 61 = .ok (.iconst 0, 1) := by decide +kernel
theorem dX5_link_62 : decode cX5_link 62 = .ok (.istore 8, 2) := by decide +kernel
theorem dX5_link_64 : decode cX5_link 64 = .ok (.iconst 1, 1) := by decide +kernel
theorem dX5_link_65 : decode cX5_link 65 = .ok (.istore 9, 2) := by decide +kernel
theorem dX5_link_67 : decode cX5_link 67 = .ok (.iconst 0, 1) := by decide +kernel
theorem dX5_link_68 : decode cX5_link 68 = .ok (.istore 10, 2) := by decide +kernel
theorem dX5_link_70 : decode cX5_link 70 = .ok (.iload 10, 2) := by decide +kernel
theorem dX5_link_72 : decode cX5_link 72 = .ok (.iload_n 3, 1) := by decide +kernel
theorem dX5_link_73 : decode cX5_link 73 = .ok (.if_icmp .ge 70, 3) := by decide +kernel
theorem dX5_link_76 : decode cX5_link 76 = .ok (.iload 7, 2) := by decide +kernel
theorem dX5_link_78 : decode cX5_link 78 = .ok (.iload 6, 2) := by decide +kernel
theorem dX5_link_80 : decode cX5_link 80 = .ok (.iload 10, 2) := by decide +kernel
theorem dX5_link_82 : decode cX5_link 82 = .ok (.invokestatic 113, 3) := by decide +kernel
theorem dX5_link_85 : decode cX5_link 85 = .ok (.ifCond .eq 7, 3) := by decide +kernel
theorem dX5_link_88 : decode cX5_link 88 = .ok (.iload_n 2, 1) := by decide +kernel
theorem dX5_link_89 : decode cX5_link 89 = .ok (.goto 7, 3) := by decide +kernel
theorem dX5_link_92 : decode cX5_link 92 = .ok (.bipush 10, 2) := by decide +kernel
theorem dX5_link_94 : decode cX5_link 94 = .ok (.iload_n 2, 1) := by decide +kernel
theorem dX5_link_95 : decode cX5_link 95 = .ok (.isub, 1) := by decide +kernel
theorem dX5_link_96 : decode cX5_link 96 = .ok (.imul, 1) := by decide +kernel
theorem dX5_link_97 : decode cX5_link 97 = .ok (.istore 7, 2) := by decide +kernel
theorem dX5_link_99 : decode cX5_link 99 = .ok (.iload 6, 2) := by decide +kernel
theorem dX5_link_101 : decode cX5_link 101 = .ok (.iload 10, 2) := by decide +kernel
theorem dX5_link_103 : decode cX5_link 103 = .ok (.invokestatic 113, 3) := by decide +kernel
theorem dX5_link_106 : decode cX5_link 106 = .ok (.ifCond .eq 7, 3) := by decide +kernel
theorem dX5_link_109 : decode cX5_link 109 = .ok (.iconst 0, 1) := by decide +kernel
theorem dX5_link_110 : decode cX5_link 110 = .ok (.goto 7, 3) := by decide +kernel
theorem dX5_link_113 : decode cX5_link 113 = .ok (.iload 8, 2) := by decide +kernel
theorem dX5_link_115 : decode cX5_link 115 = .ok (.iconst 1, 1) := by decide +kernel
theorem dX5_link_116 : decode cX5_link 116 = .ok (.iadd, 1) := by decide +kernel
theorem dX5_link_117 : decode cX5_link 117 = .ok (.istore 8, 2) := by decide +kernel
theorem dX5_link_119 : decode cX5_link 119 = .ok (.iload 9, 2) := by decide +kernel
theorem dX5_link_121 : decode cX5_link 121 = .ok (.ifCond .eq 13, 3) := by decide +kernel
theorem dX5_link_124 : decode cX5_link 124 = .ok (.iload 8, 2) := by decide +kernel
theorem dX5_link_126 : decode cX5_link 126 = .ok (.iload_n 1, 1) := by decide +kernel
theorem dX5_link_127 : decode cX5_link 127 = .ok (.if_icmp .gt 7, 3) := by decide +kernel
theorem dX5_link_130 : decode cX5_link 130 = .ok (.iconst 1, 1) := by decide +kernel
theorem dX5_link_131 : decode cX5_link 131 = .ok (.goto 4, 3) := by decide +kernel
theorem dX5_link_134 : decode cX5_link 134 = .ok (.iconst 0, 1) := by decide +kernel
theorem dX5_link_135 : decode cX5_link 135 = .ok (.istore 9, 2) := by decide +kernel
theorem dX5_link_137 : decode cX5_link 137 = .ok (.iinc 10 1, 3) := by decide +kernel
theorem dX5_link_140 : decode cX5_link 140 = .ok (.goto (-70), 3) := by decide +kernel
theorem dX5_link_143 : decode cX5_link 143 = .ok (.iload 5, 2) := by decide +kernel
theorem dX5_link_145 : decode cX5_link 145 = .ok (.iload 9, 2) := by decide +kernel
theorem dX5_link_147 : decode cX5_link 147 = .ok (.ifCond .eq 8, 3) := by decide +kernel
theorem dX5_link_150 : decode cX5_link 150 = .ok (.iload 7, 2) := by decide +kernel
theorem dX5_link_152 : decode cX5_link 152 = .ok (.goto 4, 3) := by decide +kernel
theorem dX5_link_155 : decode cX5_link 155 = .ok (.iconst 0, 1) := by decide +kernel
theorem dX5_link_156 : decode cX5_link 156 = .ok (.iadd, 1) := by decide +kernel
theorem dX5_link_157 : decode cX5_link 157 = .ok (.istore 5, 2) := by decide +kernel
theorem dX5_link_159 : decode cX5_link 159 = .ok (.iinc 6 1, 3) := by decide +kernel
theorem dX5_link_162 : decode cX5_link 162 = .ok (.goto (-112), 3) := by decide +kernel
theorem dX5_link_165 : decode cX5_link 165 = .ok (.iload 5, 2) := by decide +kernel
theorem dX5_link_167 : decode cX5_link 167 = .ok (.iload_n 3, 1) := by decide +kernel
theorem dX5_link_168 : decode cX5_link 168 = .ok (.invokestatic 190, 3) := by decide +kernel
theorem dX5_link_171 : decode cX5_link 171 = .ok (.iload 4, 2) := by decide +kernel
theorem dX5_link_173 : decode cX5_link 173 = .ok (.invokestatic 182, 3) := by decide +kernel
theorem dX5_link_176 : decode cX5_link 176 = .ok (.ireturn, 1) := by decide +kernel
theorem dX5_seed_0 : decode cX5_seed 0 = .ok (.aload_n 0, 1) := by decide +kernel
theorem dX5_seed_1 : decode cX5_seed 1 = .ok (.iconst 0, 1) := by decide +kernel
theorem dX5_seed_2 : decode cX5_seed 2 = .ok (.putfield 57, 3) := by decide +kernel
theorem dX5_seed_5 : decode cX5_seed 5 = .ok (.aload_n 0, 1) := by decide +kernel
theorem dX5_seed_6 : decode cX5_seed 6 = .ok (.getfield 199, 3) := by decide +kernel
theorem dX5_seed_9 : decode cX5_seed 9 = .ok (.lstore_n 3, 1) := by decide +kernel
theorem dX5_seed_10 : decode cX5_seed 10 = .ok (.aload_n 0, 1) := by decide +kernel
theorem dX5_seed_11 : decode cX5_seed 11 = .ok (.lload_n 1, 1) := by decide +kernel
theorem dX5_seed_12 : decode cX5_seed 12 = .ok (.putfield 199, 3) := by decide +kernel
theorem dX5_seed_15 : decode cX5_seed 15 = .ok (.lload_n 3, 1) := by decide +kernel
theorem dX5_seed_16 : decode cX5_seed 16 = .ok (.lreturn, 1) := by decide +kernel
set_option maxRecDepth 20000 in
theorem ggX5_gorges_X5_in : GoodIn wsX5_gorges wsX5_in := goodIn_r _ [12] (by decide +kernel) (by decide +kernel)
set_option maxRecDepth 20000 in
theorem gX5_gorges_X5_in : GoodIn wsX5_gorges (va_wsS RX5 63 yX5_in wsX5_in) := goodIn_app (goodIn_of _ (by decide +kernel)) ggX5_gorges_X5_in
set_option maxRecDepth 20000 in
theorem ggX5_gorges_X5_begin : GoodIn wsX5_gorges wsX5_begin := goodIn_r _ [16, 3, 17, 33, 34, 35, 36, 37, 38, 39, 40, 41, 42, 43, 44, 45, 46, 47, 48, 49, 50, 51, 52, 53, 54, 55, 56, 57, 58, 59, 60] (by decide +kernel) (by decide +kernel)
set_option maxRecDepth 20000 in
theorem gX5_gorges_X5_begin : GoodIn wsX5_gorges (wsV RX5 148 RX5 yX5_begin wsX5_begin) := goodIn_app (goodIn_of _ (by decide +kernel)) ggX5_gorges_X5_begin
set_option maxRecDepth 20000 in
theorem ggX5_gorges_X5_goMinute : GoodIn wsX5_gorges wsX5_goMinute := goodIn_r _ [21, 22, 23, 24, 25, 26, 27, 11, 28, 29, 30, 31, 32, 33, 34, 35, 36, 37, 38, 39, 40, 41, 42, 43, 44, 45, 46, 47, 48, 49, 50, 51, 52, 53, 54, 55, 56, 57, 58, 59, 60] (by decide +kernel) (by decide +kernel)
set_option maxRecDepth 20000 in
theorem gX5_gorges_X5_goMinute : GoodIn wsX5_gorges (wsV RX5 127 RX5 yX5_goMinute wsX5_goMinute) := goodIn_app (goodIn_of _ (by decide +kernel)) ggX5_gorges_X5_goMinute
theorem dX5_gorges_0 : decode cX5_gorges 0 = .ok (.aload_n 0, 1) := by decide +kernel
theorem dX5_gorges_1 : decode cX5_gorges 1 = .ok (.iconst 0, 1) := by decide +kernel
theorem dX5_gorges_2 : decode cX5_gorges 2 = .ok (.putfield 57, 3) := by decide +kernel
theorem dX5_gorges_5 : decode cX5_gorges 5 = .ok (.iload_n 1, 1) := by decide +kernel
theorem dX5_gorges_6 : decode cX5_gorges 6 = .ok (.i2l, 1) := by decide +kernel
theorem dX5_gorges_7 : decode cX5_gorges 7 = .ok (.lconst 1, 1) := by decide +kernel
theorem dX5_gorges_8 : decode cX5_gorges 8 = .ok (.ldc2_w 203, 3) := by decide +kernel
theorem dX5_gorges_11 : decode cX5_gorges 11 = .ok (.invokestatic 63, 3) := by decide +kernel
theorem dX5_gorges_14 : decode cX5_gorges 14 = .ok (.ifCond .ne 6, 3) := by decide +kernel
theorem dX5_gorges_17 : decode cX5_gorges 17 = .ok (.bipush (-2), 2) := by decide +kernel
theorem dX5_gorges_19 : decode cX5_gorges 19 = .ok (.ireturn, 1) := by decide +kernel
theorem dX5_gorges_20 : decode cX5_gorges 20 = .ok (.iconst 0, 1) := by decide +kernel
theorem dX5_gorges_21 : decode cX5_gorges 21 = .ok (.istore_n 2, 1) := by decide +kernel
theorem dX5_gorges_22 : decode cX5_gorges 22 = .ok (.iconst 0, 1) := by decide +kernel
theorem dX5_gorges_23 : decode cX5_gorges 23 = .ok (.istore_n 3, 1) := by decide +kernel
theorem dX5_gorges_24 : decode cX5_gorges 24 = .ok (.iload_n 3, 1) := by decide +kernel
theorem dX5_gorges_25 : decode cX5_gorges 25 = .ok (.iload_n 1, 1) := by decide +kernel
theorem dX5_gorges_26 : decode cX5_gorges 26 = .ok (.if_icmp .ge 76, 3) := by decide +kernel
theorem dX5_gorges_29 : decode cX5_gorges 29 = .ok (.aload_n 0, 1) := by decide +kernel
theorem dX5_gorges_30 : decode cX5_gorges 30 = .ok (.invokevirtual 148, 3) := by decide +kernel
theorem dX5_gorges_33 : decode cX5_gorges 33 = .ok (.aload_n 0, 1) := by decide +kernel
theorem dX5_gorges_34 : decode cX5_gorges 34 = .ok (.getfield 35, 3) := by decide +kernel
theorem dX5_gorges_37 : decode cX5_gorges 37 = .ok (.bipush 11, 2) := by decide +kernel
theorem dX5_gorges_39 : decode cX5_gorges 39 = .ok (.iaload, 1) := by decide +kernel
theorem dX5_gorges_40 : decode cX5_gorges 40 = .ok (.aload_n 0, 1) := by decide +kernel
theorem dX5_gorges_41 : decode cX5_gorges 41 = .ok (.getfield 13, 3) := by decide +kernel
theorem dX5_gorges_44 : decode cX5_gorges 44 = .ok (.if_icmp .ge 43, 3) := by decide +kernel
theorem dX5_gorges_47 : decode cX5_gorges 47 = .ok (.aload_n 0, 1) := by decide +kernel
theorem dX5_gorges_48 : decode cX5_gorges 48 = .ok (.aload_n 0, 1) := by decide +kernel
theorem dX5_gorges_49 : decode cX5_gorges 49 = .ok (.getfield 199, 3) := by decide +kernel
theorem dX5_gorges_52 : decode cX5_gorges 52 = .ok (.ldc2_w 205, 3) := by decide +kernel
theorem dX5_gorges_55 : decode cX5_gorges 55 = .ok (.lmul, 1) := by decide +kernel
theorem dX5_gorges_56 : decode cX5_gorges 56 = .ok (.ldc2_w 207, 3) := by decide +kernel
theorem dX5_gorges_59 : decode cX5_gorges 59 = .ok (.ladd, 1) := by decide +kernel
theorem dX5_gorges_60 : decode cX5_gorges 60 = .ok (.putfield 199, 3) := by decide +kernel
theorem dX5_gorges_63 : decode cX5_gorges 63 = .ok (.aload_n 0, 1) := by decide +kernel
theorem dX5_gorges_64 : decode cX5_gorges 64 = .ok (.aload_n 0, 1) := by decide +kernel
theorem dX5_gorges_65 : decode cX5_gorges 65 = .ok (.getfield 35, 3) := by decide +kernel
theorem dX5_gorges_68 : decode cX5_gorges 68 = .ok (.aload_n 0, 1) := by decide +kernel
theorem dX5_gorges_69 : decode cX5_gorges 69 = .ok (.getfield 199, 3) := by decide +kernel
theorem dX5_gorges_72 : decode cX5_gorges 72 = .ok (.bipush 33, 2) := by decide +kernel
theorem dX5_gorges_74 : decode cX5_gorges 74 = .ok (.lushr, 1) := by decide +kernel
theorem dX5_gorges_75 : decode cX5_gorges 75 = .ok (.ldc2_w 209, 3) := by decide +kernel
theorem dX5_gorges_78 : decode cX5_gorges 78 = .ok (.lrem, 1) := by decide +kernel
theorem dX5_gorges_79 : decode cX5_gorges 79 = .ok (.l2i, 1) := by decide +kernel
theorem dX5_gorges_80 : decode cX5_gorges 80 = .ok (.invokevirtual 127, 3) := by decide +kernel
theorem dX5_gorges_83 : decode cX5_gorges 83 = .ok (.pop, 1) := by decide +kernel
theorem dX5_gorges_84 : decode cX5_gorges 84 = .ok (.goto (-51), 3) := by decide +kernel
theorem dX5_gorges_87 : decode cX5_gorges 87 = .ok (.iload_n 2, 1) := by decide +kernel
theorem dX5_gorges_88 : decode cX5_gorges 88 = .ok (.aload_n 0, 1) := by decide +kernel
theorem dX5_gorges_89 : decode cX5_gorges 89 = .ok (.getfield 35, 3) := by decide +kernel
theorem dX5_gorges_92 : decode cX5_gorges 92 = .ok (.iconst 5, 1) := by decide +kernel
theorem dX5_gorges_93 : decode cX5_gorges 93 = .ok (.iaload, 1) := by decide +kernel
theorem dX5_gorges_94 : decode cX5_gorges 94 = .ok (.iadd, 1) := by decide +kernel
theorem dX5_gorges_95 : decode cX5_gorges 95 = .ok (.istore_n 2, 1) := by decide +kernel
theorem dX5_gorges_96 : decode cX5_gorges 96 = .ok (.iinc 3 1, 3) := by decide +kernel
theorem dX5_gorges_99 : decode cX5_gorges 99 = .ok (.goto (-75), 3) := by decide +kernel
theorem dX5_gorges_102 : decode cX5_gorges 102 = .ok (.iload_n 2, 1) := by decide +kernel
theorem dX5_gorges_103 : decode cX5_gorges 103 = .ok (.ireturn, 1) := by decide +kernel
set_option maxRecDepth 20000 in
theorem ggX5_keep_X5_in : GoodIn wsX5_keep wsX5_in := goodIn_r _ [8] (by decide +kernel) (by decide +kernel)
set_option maxRecDepth 20000 in
theorem gX5_keep_X5_in : GoodIn wsX5_keep (va_wsS RX5 63 yX5_in wsX5_in) := goodIn_app (goodIn_of _ (by decide +kernel)) ggX5_keep_X5_in
theorem dX5_keep_0 : decode cX5_keep 0 = .ok (.aload_n 0, 1) := by decide +kernel
theorem dX5_keep_1 : decode cX5_keep 1 = .ok (.iconst 0, 1) := by decide +kernel
theorem dX5_keep_2 : decode cX5_keep 2 = .ok (.putfield 57, 3) := by decide +kernel
theorem dX5_keep_5 : decode cX5_keep 5 = .ok (.iload_n 1, 1) := by decide +kernel
theorem dX5_keep_6 : decode cX5_keep 6 = .ok (.i2l, 1) := by decide +kernel
theorem dX5_keep_7 : decode cX5_keep 7 = .ok (.lconst 0, 1) := by decide +kernel
theorem dX5_keep_8 : decode cX5_keep 8 = .ok (.lconst 1, 1) := by decide +kernel
theorem dX5_keep_9 : decode cX5_keep 9 = .ok (.invokestatic 63, 3) := by decide +kernel
theorem dX5_keep_12 : decode cX5_keep 12 = .ok (.ifCond .ne 5, 3) := by decide +kernel
theorem dX5_keep_15 : decode cX5_keep 15 = .ok (.iconst (-1), 1) := by decide +kernel
theorem dX5_keep_16 : decode cX5_keep 16 = .ok (.ireturn, 1) := by decide +kernel
theorem dX5_keep_17 : decode cX5_keep 17 = .ok (.aload_n 0, 1) := by decide +kernel
theorem dX5_keep_18 : decode cX5_keep 18 = .ok (.getfield 44, 3) := by decide +kernel
theorem dX5_keep_21 : decode cX5_keep 21 = .ok (.iload_n 1, 1) := by decide +kernel
theorem dX5_keep_22 : decode cX5_keep 22 = .ok (.iconst 1, 1) := by decide +kernel
theorem dX5_keep_23 : decode cX5_keep 23 = .ok (.bastore, 1) := by decide +kernel
theorem dX5_keep_24 : decode cX5_keep 24 = .ok (.iconst 0, 1) := by decide +kernel
theorem dX5_keep_25 : decode cX5_keep 25 = .ok (.istore_n 2, 1) := by decide +kernel
theorem dX5_keep_26 : decode cX5_keep 26 = .ok (.iload_n 2, 1) := by decide +kernel
theorem dX5_keep_27 : decode cX5_keep 27 = .ok (.bipush 13, 2) := by decide +kernel
theorem dX5_keep_29 : decode cX5_keep 29 = .ok (.if_icmp .ge 26, 3) := by decide +kernel
theorem dX5_keep_32 : decode cX5_keep 32 = .ok (.aload_n 0, 1) := by decide +kernel
theorem dX5_keep_33 : decode cX5_keep 33 = .ok (.getfield 41, 3) := by decide +kernel
theorem dX5_keep_36 : decode cX5_keep 36 = .ok (.bipush 13, 2) := by decide +kernel
theorem dX5_keep_38 : decode cX5_keep 38 = .ok (.iload_n 1, 1) := by decide +kernel
theorem dX5_keep_39 : decode cX5_keep 39 = .ok (.imul, 1) := by decide +kernel
theorem dX5_keep_40 : decode cX5_keep 40 = .ok (.iload_n 2, 1) := by decide +kernel
theorem dX5_keep_41 : decode cX5_keep 41 = .ok (.iadd, 1) := by decide +kernel
theorem dX5_keep_42 : decode cX5_keep 42 = .ok (.aload_n 0, 1) := by decide +kernel
theorem dX5_keep_43 : decode cX5_keep 43 = .ok (.getfield 32, 3) := by decide +kernel
theorem dX5_keep_46 : decode cX5_keep 46 = .ok (.iload_n 2, 1) := by decide +kernel
theorem dX5_keep_47 : decode cX5_keep 47 = .ok (.iaload, 1) := by decide +kernel
theorem dX5_keep_48 : decode cX5_keep 48 = .ok (.iastore, 1) := by decide +kernel
theorem dX5_keep_49 : decode cX5_keep 49 = .ok (.iinc 2 1, 3) := by decide +kernel
theorem dX5_keep_52 : decode cX5_keep 52 = .ok (.goto (-26), 3) := by decide +kernel
theorem dX5_keep_55 : decode cX5_keep 55 = .ok (.aload_n 0, 1) := by decide +kernel
theorem dX5_keep_56 : decode cX5_keep 56 = .ok (.getfield 32, 3) := by decide +kernel
theorem dX5_keep_59 : decode cX5_keep 59 = .ok (.bipush 11, 2) := by decide +kernel
theorem dX5_keep_61 : decode cX5_keep 61 = .ok (.iaload, 1) := by decide +kernel
theorem dX5_keep_62 : decode cX5_keep 62 = .ok (.ireturn, 1) := by decide +kernel
set_option maxRecDepth 20000 in
theorem ggX5_again_X5_in : GoodIn wsX5_again wsX5_in := goodIn_r _ [9] (by decide +kernel) (by decide +kernel)
set_option maxRecDepth 20000 in
theorem gX5_again_X5_in : GoodIn wsX5_again (va_wsS RX5 63 yX5_in wsX5_in) := goodIn_app (goodIn_of _ (by decide +kernel)) ggX5_again_X5_in
theorem dX5_again_0 : decode cX5_again 0 = .ok (.aload_n 0, 1) := by decide +kernel
theorem dX5_again_1 : decode cX5_again 1 = .ok (.iconst 0, 1) := by decide +kernel
theorem dX5_again_2 : decode cX5_again 2 = .ok (.putfield 57, 3) := by decide +kernel
theorem dX5_again_5 : decode cX5_again 5 = .ok (.iload_n 1, 1) := by decide +kernel
theorem dX5_again_6 : decode cX5_again 6 = .ok (.i2l, 1) := by decide +kernel
theorem dX5_again_7 : decode cX5_again 7 = .ok (.lconst 0, 1) := by decide +kernel
theorem dX5_again_8 : decode cX5_again 8 = .ok (.lconst 1, 1) := by decide +kernel
theorem dX5_again_9 : decode cX5_again 9 = .ok (.invokestatic 63, 3) := by decide +kernel
theorem dX5_again_12 : decode cX5_again 12 = .ok (.ifCond .ne 5, 3) := by decide +kernel
theorem dX5_again_15 : decode cX5_again 15 = .ok (.iconst (-1), 1) := by decide +kernel
theorem dX5_again_16 : decode cX5_again 16 = .ok (.ireturn, 1) := by decide +kernel
theorem dX5_again_17 : decode cX5_again 17 = .ok (.aload_n 0, 1) := by decide +kernel
theorem dX5_again_18 : decode cX5_again 18 = .ok (.getfield 44, 3) := by decide +kernel
theorem dX5_again_21 : decode cX5_again 21 = .ok (.iload_n 1, 1) := by decide +kernel
theorem dX5_again_22 : decode cX5_again 22 = .ok (.baload, 1) := by decide +kernel
theorem dX5_again_23 : decode cX5_again 23 = .ok (.ifCond .ne 6, 3) := by decide +kernel
theorem dX5_again_26 : decode cX5_again 26 = .ok (.bipush (-3), 2) := by decide +kernel
theorem dX5_again_28 : decode cX5_again 28 = .ok (.ireturn, 1) := by decide +kernel
theorem dX5_again_29 : decode cX5_again 29 = .ok (.iconst 0, 1) := by decide +kernel
theorem dX5_again_30 : decode cX5_again 30 = .ok (.istore_n 2, 1) := by decide +kernel
theorem dX5_again_31 : decode cX5_again 31 = .ok (.iload_n 2, 1) := by decide +kernel
theorem dX5_again_32 : decode cX5_again 32 = .ok (.bipush 13, 2) := by decide +kernel
theorem dX5_again_34 : decode cX5_again 34 = .ok (.if_icmp .ge 26, 3) := by decide +kernel
theorem dX5_again_37 : decode cX5_again 37 = .ok (.aload_n 0, 1) := by decide +kernel
theorem dX5_again_38 : decode cX5_again 38 = .ok (.getfield 32, 3) := by decide +kernel
theorem dX5_again_41 : decode cX5_again 41 = .ok (.iload_n 2, 1) := by decide +kernel
theorem dX5_again_42 : decode cX5_again 42 = .ok (.aload_n 0, 1) := by decide +kernel
theorem dX5_again_43 : decode cX5_again 43 = .ok (.getfield 41, 3) := by decide +kernel
theorem dX5_again_46 : decode cX5_again 46 = .ok (.bipush 13, 2) := by decide +kernel
theorem dX5_again_48 : decode cX5_again 48 = .ok (.iload_n 1, 1) := by decide +kernel
theorem dX5_again_49 : decode cX5_again 49 = .ok (.imul, 1) := by decide +kernel
theorem dX5_again_50 : decode cX5_again 50 = .ok (.iload_n 2, 1) := by decide +kernel
theorem dX5_again_51 : decode cX5_again 51 = .ok (.iadd, 1) := by decide +kernel
theorem dX5_again_52 : decode cX5_again 52 = .ok (.iaload, 1) := by decide +kernel
theorem dX5_again_53 : decode cX5_again 53 = .ok (.iastore, 1) := by decide +kernel
theorem dX5_again_54 : decode cX5_again 54 = .ok (.iinc 2 1, 3) := by decide +kernel
theorem dX5_again_57 : decode cX5_again 57 = .ok (.goto (-26), 3) := by decide +kernel
theorem dX5_again_60 : decode cX5_again 60 = .ok (.aload_n 0, 1) := by decide +kernel
theorem dX5_again_61 : decode cX5_again 61 = .ok (.iconst 0, 1) := by decide +kernel
theorem dX5_again_62 : decode cX5_again 62 = .ok (.putfield 92, 3) := by decide +kernel
theorem dX5_again_65 : decode cX5_again 65 = .ok (.aload_n 0, 1) := by decide +kernel
theorem dX5_again_66 : decode cX5_again 66 = .ok (.getfield 32, 3) := by decide +kernel
theorem dX5_again_69 : decode cX5_again 69 = .ok (.bipush 11, 2) := by decide +kernel
theorem dX5_again_71 : decode cX5_again 71 = .ok (.iaload, 1) := by decide +kernel
theorem dX5_again_72 : decode cX5_again 72 = .ok (.ireturn, 1) := by decide +kernel
end
section
theorem dJ6_bitCount_0f7a4_0 : decode cJ6_bitCount_0f7a4 0 = .ok (.iload_n 0, 1) := by decide +kernel
theorem dJ6_bitCount_0f7a4_1 : decode cJ6_bitCount_0f7a4 1 = .ok (.iload_n 0, 1) := by decide +kernel
theorem dJ6_bitCount_0f7a4_2 : decode cJ6_bitCount_0f7a4 2 = .ok (.iconst 1, 1) := by decide +kernel
theorem dJ6_bitCount_0f7a4_3 : decode cJ6_bitCount_0f7a4 3 = .ok (.iushr, 1) := by decide +kernel
theorem dJ6_bitCount_0f7a4_4 : decode cJ6_bitCount_0f7a4 4 = .ok (.ldc_w 265, 3) := by decide +kernel
theorem dJ6_bitCount_0f7a4_7 : decode cJ6_bitCount_0f7a4 7 = .ok (.iand, 1) := by decide +kernel
theorem dJ6_bitCount_0f7a4_8 : decode cJ6_bitCount_0f7a4 8 = .ok (.isub, 1) := by decide +kernel
theorem dJ6_bitCount_0f7a4_9 : decode cJ6_bitCount_0f7a4 9 = .ok (.istore_n 0, 1) := by decide +kernel
theorem dJ6_bitCount_0f7a4_10 : decode cJ6_bitCount_0f7a4 10 = .ok (.iload_n 0, 1) := by decide +kernel
theorem dJ6_bitCount_0f7a4_11 : decode cJ6_bitCount_0f7a4 11 = .ok (.ldc_w 266, 3) := by decide +kernel
theorem dJ6_bitCount_0f7a4_14 : decode cJ6_bitCount_0f7a4 14 = .ok (.iand, 1) := by decide +kernel
theorem dJ6_bitCount_0f7a4_15 : decode cJ6_bitCount_0f7a4 15 = .ok (.iload_n 0, 1) := by decide +kernel
theorem dJ6_bitCount_0f7a4_16 : decode cJ6_bitCount_0f7a4 16 = .ok (.iconst 2, 1) := by decide +kernel
theorem dJ6_bitCount_0f7a4_17 : decode cJ6_bitCount_0f7a4 17 = .ok (.iushr, 1) := by decide +kernel
theorem dJ6_bitCount_0f7a4_18 : decode cJ6_bitCount_0f7a4 18 = .ok (.ldc_w 266, 3) := by decide +kernel
theorem dJ6_bitCount_0f7a4_21 : decode cJ6_bitCount_0f7a4 21 = .ok (.iand, 1) := by decide +kernel
theorem dJ6_bitCount_0f7a4_22 : decode cJ6_bitCount_0f7a4 22 = .ok (.iadd, 1) := by decide +kernel
theorem dJ6_bitCount_0f7a4_23 : decode cJ6_bitCount_0f7a4 23 = .ok (.istore_n 0, 1) := by decide +kernel
theorem dJ6_bitCount_0f7a4_24 : decode cJ6_bitCount_0f7a4 24 = .ok (.iload_n 0, 1) := by decide +kernel
theorem dJ6_bitCount_0f7a4_25 : decode cJ6_bitCount_0f7a4 25 = .ok (.iload_n 0, 1) := by decide +kernel
theorem dJ6_bitCount_0f7a4_26 : decode cJ6_bitCount_0f7a4 26 = .ok (.iconst 4, 1) := by decide +kernel
theorem dJ6_bitCount_0f7a4_27 : decode cJ6_bitCount_0f7a4 27 = .ok (.iushr, 1) := by decide +kernel
theorem dJ6_bitCount_0f7a4_28 : decode cJ6_bitCount_0f7a4 28 = .ok (.iadd, 1) := by decide +kernel
theorem dJ6_bitCount_0f7a4_29 : decode cJ6_bitCount_0f7a4 29 = .ok (.ldc_w 267, 3) := by decide +kernel
theorem dJ6_bitCount_0f7a4_32 : decode cJ6_bitCount_0f7a4 32 = .ok (.iand, 1) := by decide +kernel
theorem dJ6_bitCount_0f7a4_33 : decode cJ6_bitCount_0f7a4 33 = .ok (.istore_n 0, 1) := by decide +kernel
theorem dJ6_bitCount_0f7a4_34 : decode cJ6_bitCount_0f7a4 34 = .ok (.iload_n 0, 1) := by decide +kernel
theorem dJ6_bitCount_0f7a4_35 : decode cJ6_bitCount_0f7a4 35 = .ok (.iload_n 0, 1) := by decide +kernel
theorem dJ6_bitCount_0f7a4_36 : decode cJ6_bitCount_0f7a4 36 = .ok (.bipush 8, 2) := by decide +kernel
theorem dJ6_bitCount_0f7a4_38 : decode cJ6_bitCount_0f7a4 38 = .ok (.iushr, 1) := by decide +kernel
theorem dJ6_bitCount_0f7a4_39 : decode cJ6_bitCount_0f7a4 39 = .ok (.iadd, 1) := by decide +kernel
theorem dJ6_bitCount_0f7a4_40 : decode cJ6_bitCount_0f7a4 40 = .ok (.istore_n 0, 1) := by decide +kernel
theorem dJ6_bitCount_0f7a4_41 : decode cJ6_bitCount_0f7a4 41 = .ok (.iload_n 0, 1) := by decide +kernel
theorem dJ6_bitCount_0f7a4_42 : decode cJ6_bitCount_0f7a4 42 = .ok (.iload_n 0, 1) := by decide +kernel
theorem dJ6_bitCount_0f7a4_43 : decode cJ6_bitCount_0f7a4 43 = .ok (.bipush 16, 2) := by decide +kernel
theorem dJ6_bitCount_0f7a4_45 : decode cJ6_bitCount_0f7a4 45 = .ok (.iushr, 1) := by decide +kernel
theorem dJ6_bitCount_0f7a4_46 : decode cJ6_bitCount_0f7a4 46 = .ok (.iadd, 1) := by decide +kernel
theorem dJ6_bitCount_0f7a4_47 : decode cJ6_bitCount_0f7a4 47 = .ok (.istore_n 0, 1) := by decide +kernel
theorem dJ6_bitCount_0f7a4_48 : decode cJ6_bitCount_0f7a4 48 = .ok (.iload_n 0, 1) := by decide +kernel
theorem dJ6_bitCount_0f7a4_49 : decode cJ6_bitCount_0f7a4 49 = .ok (.bipush 63, 2) := by decide +kernel
theorem dJ6_bitCount_0f7a4_51 : decode cJ6_bitCount_0f7a4 51 = .ok (.iand, 1) := by decide +kernel
theorem dJ6_bitCount_0f7a4_52 : decode cJ6_bitCount_0f7a4 52 = .ok (.ireturn, 1) := by decide +kernel
theorem dJ9_abs_067f4_0 : decode cJ9_abs_067f4 0 = .ok (.lload_n 0, 1) := by decide +kernel
theorem dJ9_abs_067f4_1 : decode cJ9_abs_067f4 1 = .ok (.lconst 0, 1) := by decide +kernel
theorem dJ9_abs_067f4_2 : decode cJ9_abs_067f4 2 = .ok (.lcmp, 1) := by decide +kernel
theorem dJ9_abs_067f4_3 : decode cJ9_abs_067f4 3 = .ok (.ifCond .ge 8, 3) := by decide +kernel
theorem dJ9_abs_067f4_6 : decode cJ9_abs_067f4 6 = .ok (.lload_n 0, 1) := by decide +kernel
theorem dJ9_abs_067f4_7 : decode cJ9_abs_067f4 7 = .ok (.lneg, 1) := by decide +kernel
theorem dJ9_abs_067f4_8 : decode cJ9_abs_067f4 8 = .ok (.goto 4, 3) := by decide +kernel
theorem dJ9_abs_067f4_11 : decode cJ9_abs_067f4 11 = .ok (.lload_n 0, 1) := by decide +kernel
theorem dJ9_abs_067f4_12 : decode cJ9_abs_067f4 12 = .ok (.lreturn, 1) := by decide +kernel
theorem dJ9_max_7cf53_0 : decode cJ9_max_7cf53 0 = .ok (.iload_n 0, 1) := by decide +kernel
theorem dJ9_max_7cf53_1 : decode cJ9_max_7cf53 1 = .ok (.iload_n 1, 1) := by decide +kernel
theorem dJ9_max_7cf53_2 : decode cJ9_max_7cf53 2 = .ok (.if_icmp .lt 7, 3) := by decide +kernel
theorem dJ9_max_7cf53_5 : decode cJ9_max_7cf53 5 = .ok (.iload_n 0, 1) := by decide +kernel
theorem dJ9_max_7cf53_6 : decode cJ9_max_7cf53 6 = .ok (.goto 4, 3) := by decide +kernel
theorem dJ9_max_7cf53_9 : decode cJ9_max_7cf53 9 = .ok (.iload_n 1, 1) := by decide +kernel
theorem dJ9_max_7cf53_10 : decode cJ9_max_7cf53 10 = .ok (.ireturn, 1) := by decide +kernel
set_option maxRecDepth 20000 in
theorem ggL_law_X4_init : GoodIn wsL_law wsX4_init := goodIn_r _ [9, 10, 11, 12, 13, 14, 15, 16, 17, 18, 19, 20, 21, 22, 23, 24, 25, 26, 27, 28, 29, 30, 31, 32, 33, 34, 35, 36, 37, 38, 39, 40, 41, 42, 43, 44, 45, 46, 47, 48, 49, 50, 51, 52, 53, 54, 55, 56, 57, 701, 702, 662, 663, 664, 665, 666, 667, 668, 669, 670, 671, 672, 703, 704, 705, 706, 707, 708, 709, 710, 711, 712] (by decide +kernel) (by decide +kernel)
set_option maxRecDepth 20000 in
theorem gL_law_X4_init : GoodIn wsL_law (wsX4_init) := ggL_law_X4_init
set_option maxRecDepth 20000 in
theorem ggL_law_X5_init : GoodIn wsL_law wsX5_init := goodIn_r _ [60, 61, 11, 12, 38, 62, 63, 64, 65, 66, 67, 68, 69, 70, 71, 72, 73, 74, 75, 76, 77, 673, 674, 675, 676, 677, 678, 679, 680, 681, 682, 683, 684, 685, 686, 687, 688, 689, 690, 691, 692, 693, 694, 695, 696, 697, 698, 699, 700] (by decide +kernel) (by decide +kernel)
set_option maxRecDepth 20000 in
theorem gL_law_X5_init : GoodIn wsL_law (wsX5_init) := ggL_law_X5_init
set_option maxRecDepth 20000 in
theorem ggL_law_X4_write : GoodIn wsL_law wsX4_write := goodIn_r _ [81, 16, 82, 83, 2, 84, 85, 86, 87, 15, 88, 40, 39, 89, 90, 91, 92, 662, 663, 664, 665, 666, 667, 668, 669, 670, 671, 672, 701, 702] (by decide +kernel) (by decide +kernel)
set_option maxRecDepth 20000 in
theorem gL_law_X4_write : GoodIn wsL_law (wsV RL 13 RX4 yX4_write wsX4_write) := goodIn_app (goodIn_of _ (by decide +kernel)) ggL_law_X4_write
set_option maxRecDepth 20000 in
theorem ggL_law_X5_write : GoodIn wsL_law wsX5_write := goodIn_r _ [96, 97, 98, 99, 62, 100, 101, 5, 102, 673, 674, 675, 676, 677, 678, 679, 680, 681, 682, 683, 684, 685, 686, 687, 688, 689, 690, 691, 692, 693, 694, 695, 696, 697, 698, 699, 700] (by decide +kernel) (by decide +kernel)
set_option maxRecDepth 20000 in
theorem gL_law_X5_write : GoodIn wsL_law (wsV RL 17 RX5 yX5_write wsX5_write) := goodIn_app (goodIn_of _ (by decide +kernel)) ggL_law_X5_write
set_option maxRecDepth 20000 in
theorem ggL_law_X4_wipe : GoodIn wsL_law wsX4_wipe := goodIn_r _ [106, 16, 89, 90, 91, 15, 92, 40, 107, 108, 109, 110, 662, 663, 664, 665, 666, 667, 668, 669, 670, 671, 672, 701, 702] (by decide +kernel) (by decide +kernel)
set_option maxRecDepth 20000 in
theorem gL_law_X4_wipe : GoodIn wsL_law (wsV RL 18 RX4 yX4_wipe wsX4_wipe) := goodIn_app (goodIn_of _ (by decide +kernel)) ggL_law_X4_wipe
set_option maxRecDepth 20000 in
theorem ggL_law_X5_wipe : GoodIn wsL_law wsX5_wipe := goodIn_r _ [114, 97, 99, 673, 674, 675, 676, 677, 678, 679, 680, 681, 682, 683, 684, 685, 686, 687, 688, 689, 690, 691, 692, 693, 694, 695, 696, 697, 698, 699, 700] (by decide +kernel) (by decide +kernel)
set_option maxRecDepth 20000 in
theorem gL_law_X5_wipe : GoodIn wsL_law (wsV RL 22 RX5 yX5_wipe wsX5_wipe) := goodIn_app (goodIn_of _ (by decide +kernel)) ggL_law_X5_wipe
set_option maxRecDepth 20000 in
theorem ggL_law_X4_fault : GoodIn wsL_law wsX4_fault := goodIn_r _ [118, 16, 119, 120, 121, 15, 122, 40, 123, 124, 125, 126, 127, 128, 129, 130, 39, 131, 132, 133, 134, 83, 2, 84, 135, 136, 137, 138, 662, 663, 664, 665, 666, 667, 668, 669, 670, 671, 672, 701, 702] (by decide +kernel) (by decide +kernel)
set_option maxRecDepth 20000 in
theorem gL_law_X4_fault : GoodIn wsL_law (wsV RL 23 RX4 yX4_fault wsX4_fault) := goodIn_app (goodIn_of _ (by decide +kernel)) ggL_law_X4_fault
set_option maxRecDepth 20000 in
theorem ggL_law_X5_fault : GoodIn wsL_law wsX5_fault := goodIn_r _ [142, 97, 143, 144, 145, 5, 146, 147, 148, 99, 62, 149, 150, 67, 68, 151, 152, 153, 154, 100, 101, 102, 673, 674, 675, 676, 677, 678, 679, 680, 681, 682, 683, 684, 685, 686, 687, 688, 689, 690, 691, 692, 693, 694, 695, 696, 697, 698, 699, 700] (by decide +kernel) (by decide +kernel)
set_option maxRecDepth 20000 in
theorem gL_law_X5_fault : GoodIn wsL_law (wsV RL 26 RX5 yX5_fault wsX5_fault) := goodIn_app (goodIn_of _ (by decide +kernel)) ggL_law_X5_fault
set_option maxRecDepth 20000 in
theorem ggL_law_X4_gorge : GoodIn wsL_law wsX4_gorge := goodIn_r _ [158, 16, 20, 24, 28, 119, 120, 121, 15, 122, 40, 123, 124, 125, 126, 127, 128, 129, 130, 39, 131, 132, 133, 134, 83, 2, 84, 135, 136, 137, 138, 159, 160, 161, 19, 162, 45, 46, 44, 47, 48, 163, 164, 165, 166, 167, 168, 169, 170, 171, 172, 173, 174, 175, 176, 177, 178, 179, 180, 181, 182, 23, 183, 57, 184, 185, 186, 187, 188, 189, 190, 191, 192, 193, 194, 195, 53, 54, 55, 196, 197, 198, 199, 30, 29, 200, 201, 202, 203, 662, 663, 664, 665, 666, 667, 668, 669, 670, 671, 672, 701, 702, 703, 704, 705, 706, 707, 708, 709, 710, 711, 712] (by decide +kernel) (by decide +kernel)
set_option maxRecDepth 20000 in
theorem gL_law_X4_gorge : GoodIn wsL_law (wsV RL 27 RX4 yX4_gorge wsX4_gorge) := goodIn_app (goodIn_of _ (by decide +kernel)) ggL_law_X4_gorge
set_option maxRecDepth 20000 in
theorem ggL_law_X5_gorge : GoodIn wsL_law wsX5_gorge := goodIn_r _ [207, 97, 148, 208, 149, 63, 150, 64, 69, 65, 67, 66, 68, 209, 74, 143, 144, 145, 5, 146, 147, 99, 62, 151, 152, 153, 154, 100, 101, 102, 673, 674, 675, 676, 677, 678, 679, 680, 681, 682, 683, 684, 685, 686, 687, 688, 689, 690, 691, 692, 693, 694, 695, 696, 697, 698, 699, 700] (by decide +kernel) (by decide +kernel)
set_option maxRecDepth 20000 in
theorem gL_law_X5_gorge : GoodIn wsL_law (wsV RL 30 RX5 yX5_gorge wsX5_gorge) := goodIn_app (goodIn_of _ (by decide +kernel)) ggL_law_X5_gorge
set_option maxRecDepth 20000 in
theorem ggL_law_X4_about : GoodIn wsL_law wsX4_about := goodIn_r _ [213, 20, 24, 28, 33, 16, 200, 201, 202, 19, 203, 44, 214, 215, 216, 217, 45, 218, 219, 220, 221, 46, 222, 223, 224, 23, 225, 55, 226, 227, 228, 229, 53, 230, 231, 174, 232, 233, 234, 235, 236, 237, 238, 239, 185, 186, 187, 240, 241, 242, 243, 244, 245, 246, 89, 90, 91, 15, 92, 40, 247, 248, 249, 250, 57, 251, 662, 663, 664, 665, 666, 667, 668, 669, 670, 671, 672, 703, 704, 705, 706, 707, 708, 709, 710, 711, 712, 701, 702] (by decide +kernel) (by decide +kernel)
set_option maxRecDepth 20000 in
theorem gL_law_X4_about : GoodIn wsL_law (wsV RL 31 RX4 yX4_about wsX4_about) := goodIn_app (goodIn_of _ (by decide +kernel)) ggL_law_X4_about
set_option maxRecDepth 20000 in
theorem ggL_law_X5_about : GoodIn wsL_law wsX5_about := goodIn_r _ [255, 97, 208, 63, 64, 69, 209, 256, 99, 257, 258, 5, 259, 260, 261, 262, 673, 674, 675, 676, 677, 678, 679, 680, 681, 682, 683, 684, 685, 686, 687, 688, 689, 690, 691, 692, 693, 694, 695, 696, 697, 698, 699, 700] (by decide +kernel) (by decide +kernel)
set_option maxRecDepth 20000 in
theorem gL_law_X5_about : GoodIn wsL_law (wsV RL 34 RX5 yX5_about wsX5_about) := goodIn_app (goodIn_of _ (by decide +kernel)) ggL_law_X5_about
set_option maxRecDepth 20000 in
theorem ggL_law_X4_walker : GoodIn wsL_law wsX4_walker := goodIn_r _ [266, 20, 24, 267, 268, 269, 19, 270, 44, 83, 2, 84, 271, 272, 273, 274, 47, 275, 237, 174, 238, 276, 277, 278, 279, 48, 280, 281, 282, 23, 283, 54, 284, 285, 286, 287, 288, 289, 290, 291, 292, 53, 293, 234, 235, 236, 294, 295, 296, 297, 298, 299, 300, 301, 302, 662, 663, 664, 665, 666, 667, 668, 669, 670, 671, 672, 703, 704, 705, 706, 707, 708, 709, 710, 711, 712] (by decide +kernel) (by decide +kernel)
set_option maxRecDepth 20000 in
theorem gL_law_X4_walker : GoodIn wsL_law (wsV RL 35 RX4 yX4_walker wsX4_walker) := goodIn_app (goodIn_of _ (by decide +kernel)) ggL_law_X4_walker
set_option maxRecDepth 20000 in
theorem ggL_law_X5_walker : GoodIn wsL_law wsX5_walker := goodIn_r _ [306, 97, 69, 65, 66, 307, 308, 309, 5, 310, 208, 100, 101, 102, 311, 312, 313, 673, 674, 675, 676, 677, 678, 679, 680, 681, 682, 683, 684, 685, 686, 687, 688, 689, 690, 691, 692, 693, 694, 695, 696, 697, 698, 699, 700] (by decide +kernel) (by decide +kernel)
set_option maxRecDepth 20000 in
theorem gL_law_X5_walker : GoodIn wsL_law (wsV RL 39 RX5 yX5_walker wsX5_walker) := goodIn_app (goodIn_of _ (by decide +kernel)) ggL_law_X5_walker
set_option maxRecDepth 20000 in
theorem ggL_law_X4_minute : GoodIn wsL_law wsX4_minute := goodIn_r _ [317, 20, 24, 239, 185, 186, 19, 187, 44, 82, 83, 2, 84, 247, 248, 249, 23, 250, 55, 57, 251, 215, 216, 217, 45, 318, 319, 320, 321, 28, 27, 322, 323, 324, 325, 326, 327, 328, 329, 54, 53, 330, 331, 332, 333, 289, 290, 291, 292, 293, 234, 174, 235, 236, 237, 238, 294, 295, 296, 297, 284, 334, 277, 278, 279, 48, 275, 335, 336, 337, 338, 339, 219, 220, 221, 46, 340, 281, 282, 283, 341, 342, 343, 344, 345, 173, 175, 346, 347, 348, 349, 56, 350, 272, 273, 274, 47, 351, 352, 353, 662, 663, 664, 665, 666, 667, 668, 669, 670, 671, 672, 703, 704, 705, 706, 707, 708, 709, 710, 711, 712] (by decide +kernel) (by decide +kernel)
set_option maxRecDepth 20000 in
theorem gL_law_X4_minute : GoodIn wsL_law (wsV RL 40 RX4 yX4_minute wsX4_minute) := goodIn_app (goodIn_of _ (by decide +kernel)) ggL_law_X4_minute
set_option maxRecDepth 20000 in
theorem ggL_law_X5_minute : GoodIn wsL_law wsX5_minute := goodIn_r _ [357, 97, 208, 69, 63, 100, 101, 5, 102, 358, 359, 360, 361, 209, 71, 362, 363, 364, 365, 66, 366, 65, 367, 368, 369, 370, 64, 371, 372, 373, 673, 674, 675, 676, 677, 678, 679, 680, 681, 682, 683, 684, 685, 686, 687, 688, 689, 690, 691, 692, 693, 694, 695, 696, 697, 698, 699, 700] (by decide +kernel) (by decide +kernel)
set_option maxRecDepth 20000 in
theorem gL_law_X5_minute : GoodIn wsL_law (wsV RL 43 RX5 yX5_minute wsX5_minute) := goodIn_app (goodIn_of _ (by decide +kernel)) ggL_law_X5_minute
set_option maxRecDepth 20000 in
theorem ggL_law_X4_change : GoodIn wsL_law wsX4_change := goodIn_r _ [377, 24, 82, 83, 2, 84, 247, 248, 249, 23, 250, 55, 57, 251, 215, 216, 19, 217, 45, 378, 290, 291, 292, 53, 293, 234, 174, 235, 236, 237, 238, 318, 319, 320, 321, 28, 27, 322, 323, 324, 325, 326, 327, 328, 329, 54, 379, 380, 381, 382, 383, 384, 385, 191, 173, 175, 294, 295, 296, 297, 284, 341, 342, 343, 344, 345, 240, 241, 242, 243, 244, 245, 246, 233, 662, 663, 664, 665, 666, 667, 668, 669, 670, 671, 672, 708, 709, 710, 711, 712, 703, 704, 705, 706, 707] (by decide +kernel) (by decide +kernel)
set_option maxRecDepth 20000 in
theorem gL_law_X4_change : GoodIn wsL_law (wsV RL 44 RX4 yX4_change wsX4_change) := goodIn_app (goodIn_of _ (by decide +kernel)) ggL_law_X4_change
set_option maxRecDepth 20000 in
theorem ggL_law_X5_change : GoodIn wsL_law wsX5_change := goodIn_r _ [389, 97, 390, 69, 63, 100, 101, 5, 102, 358, 359, 360, 361, 209, 71, 260, 261, 262, 673, 674, 675, 676, 677, 678, 679, 680, 681, 682, 683, 684, 685, 686, 687, 688, 689, 690, 691, 692, 693, 694, 695, 696, 697, 698, 699, 700] (by decide +kernel) (by decide +kernel)
set_option maxRecDepth 20000 in
theorem gL_law_X5_change : GoodIn wsL_law (wsV RL 47 RX5 yX5_change wsX5_change) := goodIn_app (goodIn_of _ (by decide +kernel)) ggL_law_X5_change
set_option maxRecDepth 20000 in
theorem ggL_law_X4_rest : GoodIn wsL_law wsX4_rest := goodIn_r _ [394, 24, 247, 248, 249, 23, 250, 55, 57, 251, 215, 216, 19, 217, 45, 318, 319, 320, 2, 321, 28, 27, 322, 323, 324, 325, 326, 327, 328, 329, 54, 53, 395, 396, 397, 398, 289, 290, 291, 292, 293, 234, 174, 235, 236, 237, 238, 294, 295, 296, 297, 284, 340, 281, 282, 283, 341, 342, 343, 344, 345, 173, 175, 662, 663, 664, 665, 666, 667, 668, 669, 670, 671, 672, 708, 709, 710, 711, 712, 703, 704, 705, 706, 707] (by decide +kernel) (by decide +kernel)
set_option maxRecDepth 20000 in
theorem gL_law_X4_rest : GoodIn wsL_law (wsV RL 48 RX4 yX4_rest wsX4_rest) := goodIn_app (goodIn_of _ (by decide +kernel)) ggL_law_X4_rest
set_option maxRecDepth 20000 in
theorem ggL_law_X5_rest : GoodIn wsL_law wsX5_rest := goodIn_r _ [402, 97, 69, 63, 358, 359, 360, 5, 361, 209, 71, 673, 674, 675, 676, 677, 678, 679, 680, 681, 682, 683, 684, 685, 686, 687, 688, 689, 690, 691, 692, 693, 694, 695, 696, 697, 698, 699, 700] (by decide +kernel) (by decide +kernel)
set_option maxRecDepth 20000 in
theorem gL_law_X5_rest : GoodIn wsL_law (wsV RL 51 RX5 yX5_rest wsX5_rest) := goodIn_app (goodIn_of _ (by decide +kernel)) ggL_law_X5_rest
set_option maxRecDepth 20000 in
theorem ggL_law_X4_undo : GoodIn wsL_law wsX4_undo := goodIn_r _ [406, 28, 27, 24, 82, 83, 2, 84, 407, 408, 409, 23, 410, 411, 53, 54, 55, 662, 663, 664, 665, 666, 667, 668, 669, 670, 671, 672, 708, 709, 710, 711, 712] (by decide +kernel) (by decide +kernel)
set_option maxRecDepth 20000 in
theorem gL_law_X4_undo : GoodIn wsL_law (wsV RL 52 RX4 yX4_undo wsX4_undo) := goodIn_app (goodIn_of _ (by decide +kernel)) ggL_law_X4_undo
set_option maxRecDepth 20000 in
theorem ggL_law_X5_undo : GoodIn wsL_law wsX5_undo := goodIn_r _ [415, 97, 209, 69, 71, 673, 674, 675, 676, 677, 678, 679, 680, 681, 682, 683, 684, 685, 686, 687, 688, 689, 690, 691, 692, 693, 694, 695, 696, 697, 698, 699, 700] (by decide +kernel) (by decide +kernel)
set_option maxRecDepth 20000 in
theorem gL_law_X5_undo : GoodIn wsL_law (wsV RL 55 RX5 yX5_undo wsX5_undo) := goodIn_app (goodIn_of _ (by decide +kernel)) ggL_law_X5_undo
set_option maxRecDepth 20000 in
theorem ggL_law_X4_left : GoodIn wsL_law wsX4_left := goodIn_r _ [419, 25, 24, 420, 421, 2, 422, 423, 424, 82, 83, 84, 326, 327, 328, 23, 329, 55, 54, 53, 407, 408, 409, 410, 411, 425, 426, 427, 428, 56, 429, 248, 249, 250, 57, 251, 215, 216, 19, 217, 45, 430, 431, 432, 433, 434, 331, 332, 333, 289, 290, 291, 292, 293, 234, 174, 235, 236, 237, 238, 294, 295, 296, 297, 284, 334, 277, 278, 279, 48, 275, 335, 336, 337, 338, 339, 219, 220, 221, 46, 340, 281, 282, 283, 341, 342, 343, 344, 345, 173, 175, 346, 347, 348, 349, 350, 272, 273, 274, 47, 351, 352, 353, 226, 227, 228, 229, 230, 231, 232, 233, 662, 663, 664, 665, 666, 667, 668, 669, 670, 671, 672, 708, 709, 710, 711, 712, 703, 704, 705, 706, 707] (by decide +kernel) (by decide +kernel)
set_option maxRecDepth 20000 in
theorem gL_law_X4_left : GoodIn wsL_law (wsV RL 58 RX4 yX4_left wsX4_left) := goodIn_app (goodIn_of _ (by decide +kernel)) ggL_law_X4_left
set_option maxRecDepth 20000 in
theorem ggL_law_X5_left : GoodIn wsL_law wsX5_left := goodIn_r _ [438, 97, 70, 439, 440, 5, 441, 442, 100, 101, 102, 443, 444, 445, 446, 447, 448, 449, 450, 451, 452, 453, 69, 454, 455, 456, 457, 63, 362, 363, 364, 365, 66, 366, 65, 367, 368, 369, 370, 64, 371, 372, 373, 257, 258, 259, 673, 674, 675, 676, 677, 678, 679, 680, 681, 682, 683, 684, 685, 686, 687, 688, 689, 690, 691, 692, 693, 694, 695, 696, 697, 698, 699, 700] (by decide +kernel) (by decide +kernel)
set_option maxRecDepth 20000 in
theorem gL_law_X5_left : GoodIn wsL_law (wsV RL 62 RX5 yX5_left wsX5_left) := goodIn_app (goodIn_of _ (by decide +kernel)) ggL_law_X5_left
set_option maxRecDepth 20000 in
theorem ggL_law_X4_firstTurn : GoodIn wsL_law wsX4_firstTurn := goodIn_r _ [461, 25, 24, 420, 421, 2, 422, 423, 424, 82, 83, 84, 326, 327, 328, 23, 329, 55, 54, 53, 407, 408, 409, 410, 411, 425, 426, 427, 428, 56, 429, 248, 249, 250, 57, 251, 215, 216, 19, 217, 45, 430, 431, 432, 433, 434, 331, 332, 333, 289, 290, 291, 292, 293, 234, 174, 235, 236, 237, 238, 294, 295, 296, 297, 284, 334, 277, 278, 279, 48, 275, 335, 336, 337, 338, 339, 219, 220, 221, 46, 340, 281, 282, 283, 341, 342, 343, 344, 345, 173, 175, 346, 347, 348, 349, 350, 272, 273, 274, 47, 351, 352, 353, 662, 663, 664, 665, 666, 667, 668, 669, 670, 671, 672, 708, 709, 710, 711, 712, 703, 704, 705, 706, 707] (by decide +kernel) (by decide +kernel)
set_option maxRecDepth 20000 in
theorem gL_law_X4_firstTurn : GoodIn wsL_law (wsV RL 63 RX4 yX4_firstTurn wsX4_firstTurn) := goodIn_app (goodIn_of _ (by decide +kernel)) ggL_law_X4_firstTurn
set_option maxRecDepth 20000 in
theorem ggL_law_X5_firstTurn : GoodIn wsL_law wsX5_firstTurn := goodIn_r _ [465, 97, 439, 440, 5, 441, 442, 100, 101, 102, 443, 444, 445, 446, 447, 448, 449, 450, 451, 452, 453, 70, 69, 454, 455, 456, 457, 63, 362, 363, 364, 365, 66, 366, 65, 367, 368, 369, 370, 64, 371, 372, 373, 673, 674, 675, 676, 677, 678, 679, 680, 681, 682, 683, 684, 685, 686, 687, 688, 689, 690, 691, 692, 693, 694, 695, 696, 697, 698, 699, 700] (by decide +kernel) (by decide +kernel)
set_option maxRecDepth 20000 in
theorem gL_law_X5_firstTurn : GoodIn wsL_law (wsV RL 66 RX5 yX5_firstTurn wsX5_firstTurn) := goodIn_app (goodIn_of _ (by decide +kernel)) ggL_law_X5_firstTurn
set_option maxRecDepth 20000 in
theorem ggL_law_X4_order : GoodIn wsL_law wsX4_order := goodIn_r _ [469, 24, 420, 421, 2, 422, 423, 424, 82, 83, 84, 226, 227, 228, 23, 229, 53, 230, 231, 174, 232, 233, 234, 235, 236, 237, 238, 470, 189, 190, 191, 173, 175, 471, 472, 473, 474, 25, 222, 223, 224, 225, 55, 475, 193, 194, 195, 54, 425, 426, 427, 428, 56, 429, 248, 249, 250, 57, 251, 215, 216, 19, 217, 45, 430, 431, 432, 433, 434, 331, 332, 333, 289, 290, 291, 292, 293, 294, 295, 296, 297, 284, 334, 277, 278, 279, 48, 275, 335, 336, 337, 338, 339, 219, 220, 221, 46, 340, 281, 282, 283, 341, 342, 343, 344, 345, 346, 347, 348, 349, 350, 272, 273, 274, 47, 351, 352, 353, 378, 476, 477, 478, 479, 384, 385, 244, 245, 246, 662, 663, 664, 665, 666, 667, 668, 669, 670, 671, 672, 708, 709, 710, 711, 712, 703, 704, 705, 706, 707] (by decide +kernel) (by decide +kernel)
set_option maxRecDepth 20000 in
theorem gL_law_X4_order : GoodIn wsL_law (wsV RL 67 RX4 yX4_order wsX4_order) := goodIn_app (goodIn_of _ (by decide +kernel)) ggL_law_X4_order
set_option maxRecDepth 20000 in
theorem ggL_law_X5_order : GoodIn wsL_law wsX5_order := goodIn_r _ [483, 97, 484, 485, 439, 440, 5, 441, 442, 100, 101, 102, 443, 444, 445, 446, 447, 448, 449, 486, 487, 488, 489, 69, 70, 450, 451, 452, 453, 257, 258, 259, 490, 491, 492, 493, 454, 455, 456, 457, 63, 362, 363, 364, 365, 66, 366, 65, 367, 368, 369, 370, 64, 371, 372, 373, 673, 674, 675, 676, 677, 678, 679, 680, 681, 682, 683, 684, 685, 686, 687, 688, 689, 690, 691, 692, 693, 694, 695, 696, 697, 698, 699, 700] (by decide +kernel) (by decide +kernel)
set_option maxRecDepth 20000 in
theorem gL_law_X5_order : GoodIn wsL_law (wsV RL 71 RX5 yX5_order wsX5_order) := goodIn_app (goodIn_of _ (by decide +kernel)) ggL_law_X5_order
set_option maxRecDepth 20000 in
theorem ggL_law_X4_share : GoodIn wsL_law wsX4_share := goodIn_r _ [497, 20, 24, 267, 268, 269, 19, 270, 44, 83, 2, 84, 420, 421, 422, 423, 424, 82, 240, 241, 242, 23, 243, 53, 226, 227, 228, 229, 230, 231, 174, 232, 233, 234, 235, 236, 237, 238, 498, 499, 500, 501, 502, 503, 504, 505, 506, 507, 378, 290, 291, 292, 293, 508, 509, 510, 511, 512, 513, 514, 515, 516, 517, 518, 352, 353, 471, 472, 473, 474, 25, 222, 223, 224, 225, 55, 475, 193, 194, 195, 54, 425, 426, 427, 428, 56, 429, 248, 249, 250, 57, 251, 215, 216, 217, 45, 430, 431, 432, 433, 434, 331, 332, 333, 289, 294, 295, 296, 297, 284, 334, 277, 278, 279, 48, 275, 335, 336, 337, 338, 339, 219, 220, 221, 46, 340, 281, 282, 283, 341, 342, 343, 344, 345, 173, 175, 346, 347, 348, 349, 350, 272, 273, 274, 47, 351, 519, 520, 521, 662, 663, 664, 665, 666, 667, 668, 669, 670, 671, 672, 703, 704, 705, 706, 707, 708, 709, 710, 711, 712] (by decide +kernel) (by decide +kernel)
set_option maxRecDepth 20000 in
theorem gL_law_X4_share : GoodIn wsL_law (wsV RL 72 RX4 yX4_share wsX4_share) := goodIn_app (goodIn_of _ (by decide +kernel)) ggL_law_X4_share
set_option maxRecDepth 20000 in
theorem ggL_law_X5_share : GoodIn wsL_law wsX5_share := goodIn_r _ [525, 97, 69, 77, 307, 308, 309, 5, 310, 208, 100, 101, 102, 439, 440, 441, 442, 443, 444, 445, 446, 447, 448, 449, 257, 258, 259, 526, 527, 528, 529, 70, 450, 451, 452, 453, 490, 491, 492, 493, 371, 372, 373, 454, 455, 456, 457, 63, 362, 363, 364, 365, 66, 366, 65, 367, 368, 369, 370, 64, 530, 531, 532, 533, 534, 535, 536, 537, 538, 539, 540, 541, 673, 674, 675, 676, 677, 678, 679, 680, 681, 682, 683, 684, 685, 686, 687, 688, 689, 690, 691, 692, 693, 694, 695, 696, 697, 698, 699, 700] (by decide +kernel) (by decide +kernel)
set_option maxRecDepth 20000 in
theorem gL_law_X5_share : GoodIn wsL_law (wsV RL 76 RX5 yX5_share wsX5_share) := goodIn_app (goodIn_of _ (by decide +kernel)) ggL_law_X5_share
set_option maxRecDepth 20000 in
theorem ggL_law_X4_bears : GoodIn wsL_law wsX4_bears := goodIn_r _ [545, 20, 24, 25, 267, 268, 269, 19, 270, 44, 83, 2, 84, 285, 286, 287, 23, 288, 289, 290, 291, 292, 53, 293, 234, 174, 235, 236, 237, 238, 294, 295, 296, 297, 284, 326, 327, 328, 329, 55, 54, 407, 408, 409, 410, 411, 214, 215, 216, 217, 45, 222, 223, 224, 225, 330, 331, 332, 333, 57, 334, 277, 278, 279, 48, 275, 335, 336, 337, 338, 339, 219, 220, 221, 46, 340, 281, 282, 283, 341, 342, 343, 344, 345, 173, 175, 346, 347, 348, 349, 56, 350, 272, 273, 274, 47, 351, 352, 353, 546, 547, 548, 549, 662, 663, 664, 665, 666, 667, 668, 669, 670, 671, 672, 703, 704, 705, 706, 707, 708, 709, 710, 711, 712] (by decide +kernel) (by decide +kernel)
set_option maxRecDepth 20000 in
theorem gL_law_X4_bears : GoodIn wsL_law (wsV RL 77 RX4 yX4_bears wsX4_bears) := goodIn_app (goodIn_of _ (by decide +kernel)) ggL_law_X4_bears
set_option maxRecDepth 20000 in
theorem ggL_law_X5_bears : GoodIn wsL_law wsX5_bears := goodIn_r _ [553, 97, 69, 70, 63, 366, 307, 308, 309, 5, 310, 208, 100, 101, 102, 371, 372, 373, 450, 451, 452, 453, 362, 363, 364, 365, 66, 65, 367, 368, 369, 370, 64, 673, 674, 675, 676, 677, 678, 679, 680, 681, 682, 683, 684, 685, 686, 687, 688, 689, 690, 691, 692, 693, 694, 695, 696, 697, 698, 699, 700] (by decide +kernel) (by decide +kernel)
set_option maxRecDepth 20000 in
theorem gL_law_X5_bears : GoodIn wsL_law (wsV RL 80 RX5 yX5_bears wsX5_bears) := goodIn_app (goodIn_of _ (by decide +kernel)) ggL_law_X5_bears
set_option maxRecDepth 20000 in
theorem ggL_law_X4_still : GoodIn wsL_law wsX4_still := goodIn_r _ [557, 423, 558, 82, 83, 2, 84, 559, 560, 561, 498, 499, 500, 501, 502, 503, 504, 505, 506, 507] (by decide +kernel) (by decide +kernel)
set_option maxRecDepth 20000 in
theorem gL_law_X4_still : GoodIn wsL_law (wsV RL 81 RX4 yX4_still wsX4_still) := goodIn_app (goodIn_of _ (by decide +kernel)) ggL_law_X4_still
set_option maxRecDepth 20000 in
theorem ggL_law_X5_still : GoodIn wsL_law wsX5_still := goodIn_r _ [565, 97, 566, 567, 100, 101, 5, 102, 568, 569, 570, 371, 372, 373, 536, 537, 538, 539, 540, 541, 673, 674, 675, 676, 677, 678, 679, 680, 681, 682, 683, 684, 685, 686, 687, 688, 689, 690, 691, 692, 693, 694, 695, 696, 697, 698, 699, 700] (by decide +kernel) (by decide +kernel)
set_option maxRecDepth 20000 in
theorem gL_law_X5_still : GoodIn wsL_law (wsV RL 85 RX5 yX5_still wsX5_still) := goodIn_app (goodIn_of _ (by decide +kernel)) ggL_law_X5_still
set_option maxRecDepth 20000 in
theorem ggL_law_X4_pebbles : GoodIn wsL_law wsX4_pebbles := goodIn_r _ [574, 82, 83, 2, 84] (by decide +kernel) (by decide +kernel)
set_option maxRecDepth 20000 in
theorem gL_law_X4_pebbles : GoodIn wsL_law (wsV RL 86 RX4 yX4_pebbles wsX4_pebbles) := goodIn_app (goodIn_of _ (by decide +kernel)) ggL_law_X4_pebbles
set_option maxRecDepth 20000 in
theorem ggL_law_X5_pebbles : GoodIn wsL_law wsX5_pebbles := goodIn_r _ [578, 97, 442, 579, 100, 101, 5, 102, 673, 674, 675, 676, 677, 678, 679, 680, 681, 682, 683, 684, 685, 686, 687, 688, 689, 690, 691, 692, 693, 694, 695, 696, 697, 698, 699, 700] (by decide +kernel) (by decide +kernel)
set_option maxRecDepth 20000 in
theorem gL_law_X5_pebbles : GoodIn wsL_law (wsV RL 90 RX5 yX5_pebbles wsX5_pebbles) := goodIn_app (goodIn_of _ (by decide +kernel)) ggL_law_X5_pebbles
set_option maxRecDepth 20000 in
theorem ggL_law_X4_tell : GoodIn wsL_law wsX4_tell := goodIn_r _ [583, 33, 31, 32, 82, 83, 2, 84, 662, 663, 664, 665, 666, 667, 668, 669, 670, 671, 672] (by decide +kernel) (by decide +kernel)
set_option maxRecDepth 20000 in
theorem gL_law_X4_tell : GoodIn wsL_law (wsV RL 91 RX4 yX4_tell wsX4_tell) := goodIn_app (goodIn_of _ (by decide +kernel)) ggL_law_X4_tell
set_option maxRecDepth 20000 in
theorem ggL_law_X5_tell : GoodIn wsL_law wsX5_tell := goodIn_r _ [587, 97, 588, 256, 75, 76, 100, 101, 5, 102, 673, 674, 675, 676, 677, 678, 679, 680, 681, 682, 683, 684, 685, 686, 687, 688, 689, 690, 691, 692, 693, 694, 695, 696, 697, 698, 699, 700] (by decide +kernel) (by decide +kernel)
set_option maxRecDepth 20000 in
theorem gL_law_X5_tell : GoodIn wsL_law (wsV RL 95 RX5 yX5_tell wsX5_tell) := goodIn_app (goodIn_of _ (by decide +kernel)) ggL_law_X5_tell
set_option maxRecDepth 20000 in
theorem ggL_law_X4_untell : GoodIn wsL_law wsX4_untell := goodIn_r _ [592, 33, 31, 32, 662, 663, 664, 665, 666, 667, 668, 669, 670, 671, 672] (by decide +kernel) (by decide +kernel)
set_option maxRecDepth 20000 in
theorem gL_law_X4_untell : GoodIn wsL_law (wsV RL 96 RX4 yX4_untell wsX4_untell) := goodIn_app (goodIn_of _ (by decide +kernel)) ggL_law_X4_untell
set_option maxRecDepth 20000 in
theorem ggL_law_X5_untell : GoodIn wsL_law wsX5_untell := goodIn_r _ [596, 97, 256, 673, 674, 675, 676, 677, 678, 679, 680, 681, 682, 683, 684, 685, 686, 687, 688, 689, 690, 691, 692, 693, 694, 695, 696, 697, 698, 699, 700] (by decide +kernel) (by decide +kernel)
set_option maxRecDepth 20000 in
theorem gL_law_X5_untell : GoodIn wsL_law (wsV RL 99 RX5 yX5_untell wsX5_untell) := goodIn_app (goodIn_of _ (by decide +kernel)) ggL_law_X5_untell
set_option maxRecDepth 20000 in
theorem ggL_law_X4_letGo : GoodIn wsL_law wsX4_letGo := goodIn_r _ [600, 31, 32, 662, 663, 664, 665, 666, 667, 668, 669, 670, 671, 672] (by decide +kernel) (by decide +kernel)
set_option maxRecDepth 20000 in
theorem gL_law_X4_letGo : GoodIn wsL_law (wsV RL 100 RX4 yX4_letGo wsX4_letGo) := goodIn_app (goodIn_of _ (by decide +kernel)) ggL_law_X4_letGo
set_option maxRecDepth 20000 in
theorem ggL_law_X5_letGo : GoodIn wsL_law wsX5_letGo := goodIn_r _ [604, 97, 256, 75, 76, 673, 674, 675, 676, 677, 678, 679, 680, 681, 682, 683, 684, 685, 686, 687, 688, 689, 690, 691, 692, 693, 694, 695, 696, 697, 698, 699, 700] (by decide +kernel) (by decide +kernel)
set_option maxRecDepth 20000 in
theorem gL_law_X5_letGo : GoodIn wsL_law (wsV RL 104 RX5 yX5_letGo wsX5_letGo) := goodIn_app (goodIn_of _ (by decide +kernel)) ggL_law_X5_letGo
set_option maxRecDepth 20000 in
theorem ggL_law_X4_link : GoodIn wsL_law wsX4_link := goodIn_r _ [608, 82, 83, 2, 84, 559, 560, 561, 609, 610, 611, 612, 613, 503, 614, 508, 509, 510, 511, 512, 513, 514, 615, 616, 617, 498, 499, 500, 501, 502, 504, 505, 506, 507] (by decide +kernel) (by decide +kernel)
set_option maxRecDepth 20000 in
theorem gL_law_X4_link : GoodIn wsL_law (wsV RL 105 RX4 yX4_link wsX4_link) := goodIn_app (goodIn_of _ (by decide +kernel)) ggL_law_X4_link
set_option maxRecDepth 20000 in
theorem ggL_law_X5_link : GoodIn wsL_law wsX5_link := goodIn_r _ [621, 97, 442, 567, 622, 100, 101, 5, 102, 371, 372, 373, 568, 569, 570, 536, 537, 538, 539, 540, 541, 673, 674, 675, 676, 677, 678, 679, 680, 681, 682, 683, 684, 685, 686, 687, 688, 689, 690, 691, 692, 693, 694, 695, 696, 697, 698, 699, 700] (by decide +kernel) (by decide +kernel)
set_option maxRecDepth 20000 in
theorem gL_law_X5_link : GoodIn wsL_law (wsV RL 109 RX5 yX5_link wsX5_link) := goodIn_app (goodIn_of _ (by decide +kernel)) ggL_law_X5_link
set_option maxRecDepth 20000 in
theorem ggL_law_X4_seed : GoodIn wsL_law wsX4_seed := goodIn_r _ [626, 34, 662, 663, 664, 665, 666, 667, 668, 669, 670, 671, 672] (by decide +kernel) (by decide +kernel)
set_option maxRecDepth 20000 in
theorem gL_law_X4_seed : GoodIn wsL_law (wsV RL 110 RX4 yX4_seed wsX4_seed) := goodIn_app (goodIn_of _ (by decide +kernel)) ggL_law_X4_seed
set_option maxRecDepth 20000 in
theorem ggL_law_X5_seed : GoodIn wsL_law wsX5_seed := goodIn_r _ [630, 97, 631, 673, 674, 675, 676, 677, 678, 679, 680, 681, 682, 683, 684, 685, 686, 687, 688, 689, 690, 691, 692, 693, 694, 695, 696, 697, 698, 699, 700] (by decide +kernel) (by decide +kernel)
set_option maxRecDepth 20000 in
theorem gL_law_X5_seed : GoodIn wsL_law (wsV RL 114 RX5 yX5_seed wsX5_seed) := goodIn_app (goodIn_of _ (by decide +kernel)) ggL_law_X5_seed
set_option maxRecDepth 20000 in
theorem ggL_law_X4_gorges : GoodIn wsL_law wsX4_gorges := goodIn_r _ [635, 20, 24, 25, 34, 636, 637, 82, 83, 2, 84, 214, 215, 216, 19, 217, 45, 222, 223, 224, 23, 225, 55, 326, 327, 328, 329, 54, 53, 407, 408, 409, 410, 411, 330, 331, 332, 333, 57, 289, 290, 291, 292, 293, 234, 174, 235, 236, 237, 238, 294, 295, 296, 297, 284, 334, 277, 278, 279, 48, 275, 335, 336, 337, 338, 339, 219, 220, 221, 46, 340, 281, 282, 283, 341, 342, 343, 344, 345, 173, 175, 346, 347, 348, 349, 56, 350, 272, 273, 274, 47, 351, 352, 353, 378, 662, 663, 664, 665, 666, 667, 668, 669, 670, 671, 672, 703, 704, 705, 706, 707, 708, 709, 710, 711, 712] (by decide +kernel) (by decide +kernel)
set_option maxRecDepth 20000 in
theorem gL_law_X4_gorges : GoodIn wsL_law (wsV RL 115 RX4 yX4_gorges wsX4_gorges) := goodIn_app (goodIn_of _ (by decide +kernel)) ggL_law_X4_gorges
set_option maxRecDepth 20000 in
theorem ggL_law_X5_gorges : GoodIn wsL_law wsX5_gorges := goodIn_r _ [641, 97, 642, 70, 63, 631, 643, 644, 645, 100, 101, 5, 102, 450, 451, 452, 453, 69, 362, 363, 364, 365, 66, 366, 65, 367, 368, 369, 370, 64, 371, 372, 373, 673, 674, 675, 676, 677, 678, 679, 680, 681, 682, 683, 684, 685, 686, 687, 688, 689, 690, 691, 692, 693, 694, 695, 696, 697, 698, 699, 700] (by decide +kernel) (by decide +kernel)
set_option maxRecDepth 20000 in
theorem gL_law_X5_gorges : GoodIn wsL_law (wsV RL 118 RX5 yX5_gorges wsX5_gorges) := goodIn_app (goodIn_of _ (by decide +kernel)) ggL_law_X5_gorges
set_option maxRecDepth 20000 in
theorem ggL_law_X4_keep : GoodIn wsL_law wsX4_keep := goodIn_r _ [649, 30, 24, 82, 83, 2, 84, 326, 327, 328, 23, 329, 55, 54, 53, 222, 223, 224, 225, 662, 663, 664, 665, 666, 667, 668, 669, 670, 671, 672, 708, 709, 710, 711, 712] (by decide +kernel) (by decide +kernel)
set_option maxRecDepth 20000 in
theorem gL_law_X4_keep : GoodIn wsL_law (wsV RL 119 RX4 yX4_keep wsX4_keep) := goodIn_app (goodIn_of _ (by decide +kernel)) ggL_law_X4_keep
set_option maxRecDepth 20000 in
theorem ggL_law_X5_keep : GoodIn wsL_law wsX5_keep := goodIn_r _ [653, 97, 74, 72, 69, 100, 101, 5, 102, 673, 674, 675, 676, 677, 678, 679, 680, 681, 682, 683, 684, 685, 686, 687, 688, 689, 690, 691, 692, 693, 694, 695, 696, 697, 698, 699, 700] (by decide +kernel) (by decide +kernel)
set_option maxRecDepth 20000 in
theorem gL_law_X5_keep : GoodIn wsL_law (wsV RL 122 RX5 yX5_keep wsX5_keep) := goodIn_app (goodIn_of _ (by decide +kernel)) ggL_law_X5_keep
set_option maxRecDepth 20000 in
theorem ggL_law_X4_again : GoodIn wsL_law wsX4_again := goodIn_r _ [657, 30, 29, 24, 28, 82, 83, 2, 84, 407, 408, 409, 23, 410, 411, 53, 54, 55, 222, 223, 224, 225, 662, 663, 664, 665, 666, 667, 668, 669, 670, 671, 672, 708, 709, 710, 711, 712] (by decide +kernel) (by decide +kernel)
set_option maxRecDepth 20000 in
theorem gL_law_X4_again : GoodIn wsL_law (wsV RL 123 RX4 yX4_again wsX4_again) := goodIn_app (goodIn_of _ (by decide +kernel)) ggL_law_X4_again
set_option maxRecDepth 20000 in
theorem ggL_law_X5_again : GoodIn wsL_law wsX5_again := goodIn_r _ [661, 97, 74, 69, 72, 209, 100, 101, 5, 102, 673, 674, 675, 676, 677, 678, 679, 680, 681, 682, 683, 684, 685, 686, 687, 688, 689, 690, 691, 692, 693, 694, 695, 696, 697, 698, 699, 700] (by decide +kernel) (by decide +kernel)
set_option maxRecDepth 20000 in
theorem gL_law_X5_again : GoodIn wsL_law (wsV RL 126 RX5 yX5_again wsX5_again) := goodIn_app (goodIn_of _ (by decide +kernel)) ggL_law_X5_again
theorem dL_law_0 : decode cL_law 0 = .ok (.new 7, 3) := by decide +kernel
theorem dL_law_3 : decode cL_law 3 = .ok (.dup, 1) := by decide +kernel
theorem dL_law_4 : decode cL_law 4 = .ok (.invokespecial 9, 3) := by decide +kernel
theorem dL_law_7 : decode cL_law 7 = .ok (.astore_n 1, 1) := by decide +kernel
theorem dL_law_8 : decode cL_law 8 = .ok (.new 10, 3) := by decide +kernel
theorem dL_law_11 : decode cL_law 11 = .ok (.dup, 1) := by decide +kernel
theorem dL_law_12 : decode cL_law 12 = .ok (.invokespecial 12, 3) := by decide +kernel
theorem dL_law_15 : decode cL_law 15 = .ok (.astore_n 2, 1) := by decide +kernel
theorem dL_law_16 : decode cL_law 16 = .ok (.iconst 0, 1) := by decide +kernel
theorem dL_law_17 : decode cL_law 17 = .ok (.istore_n 3, 1) := by decide +kernel
theorem dL_law_18 : decode cL_law 18 = .ok (.iload_n 3, 1) := by decide +kernel
theorem dL_law_19 : decode cL_law 19 = .ok (.aload_n 0, 1) := by decide +kernel
theorem dL_law_20 : decode cL_law 20 = .ok (.arraylength, 1) := by decide +kernel
theorem dL_law_21 : decode cL_law 21 = .ok (.bipush 6, 2) := by decide +kernel
theorem dL_law_23 : decode cL_law 23 = .ok (.isub, 1) := by decide +kernel
theorem dL_law_24 : decode cL_law 24 = .ok (.if_icmp .gt 1072, 3) := by decide +kernel
theorem dL_law_27 : decode cL_law 27 = .ok (.aload_n 0, 1) := by decide +kernel
theorem dL_law_28 : decode cL_law 28 = .ok (.iload_n 3, 1) := by decide +kernel
theorem dL_law_29 : decode cL_law 29 = .ok (.iaload, 1) := by decide +kernel
theorem dL_law_30 : decode cL_law 30 = .ok (.bipush 31, 2) := by decide +kernel
theorem dL_law_32 : decode cL_law 32 = .ok (.iand, 1) := by decide +kernel
theorem dL_law_33 : decode cL_law 33 = .ok (.tableswitch 1057 0 24 #[115, 138, 151, 164, 177, 200, 233, 256, 279, 292, 305, 368, 431, 504, 603, 626, 705, 764, 813, 826, 865, 934, 988, 1011, 1034], 115) := by decide +kernel
theorem dL_law_148 : decode cL_law 148 = .ok (.aload_n 1, 1) := by decide +kernel
theorem dL_law_149 : decode cL_law 149 = .ok (.aload_n 0, 1) := by decide +kernel
theorem dL_law_150 : decode cL_law 150 = .ok (.iload_n 3, 1) := by decide +kernel
theorem dL_law_151 : decode cL_law 151 = .ok (.iconst 1, 1) := by decide +kernel
theorem dL_law_152 : decode cL_law 152 = .ok (.iadd, 1) := by decide +kernel
theorem dL_law_153 : decode cL_law 153 = .ok (.iaload, 1) := by decide +kernel
theorem dL_law_154 : decode cL_law 154 = .ok (.invokevirtual 13, 3) := by decide +kernel
theorem dL_law_157 : decode cL_law 157 = .ok (.aload_n 2, 1) := by decide +kernel
theorem dL_law_158 : decode cL_law 158 = .ok (.aload_n 0, 1) := by decide +kernel
theorem dL_law_159 : decode cL_law 159 = .ok (.iload_n 3, 1) := by decide +kernel
theorem dL_law_160 : decode cL_law 160 = .ok (.iconst 1, 1) := by decide +kernel
theorem dL_law_161 : decode cL_law 161 = .ok (.iadd, 1) := by decide +kernel
theorem dL_law_162 : decode cL_law 162 = .ok (.iaload, 1) := by decide +kernel
theorem dL_law_163 : decode cL_law 163 = .ok (.invokevirtual 17, 3) := by decide +kernel
theorem dL_law_166 : decode cL_law 166 = .ok (.if_icmp .eq 924, 3) := by decide +kernel
theorem dL_law_169 : decode cL_law 169 = .ok (.iconst 0, 1) := by decide +kernel
theorem dL_law_170 : decode cL_law 170 = .ok (.ireturn, 1) := by decide +kernel
theorem dL_law_171 : decode cL_law 171 = .ok (.aload_n 1, 1) := by decide +kernel
theorem dL_law_172 : decode cL_law 172 = .ok (.invokevirtual 18, 3) := by decide +kernel
theorem dL_law_175 : decode cL_law 175 = .ok (.aload_n 2, 1) := by decide +kernel
theorem dL_law_176 : decode cL_law 176 = .ok (.invokevirtual 22, 3) := by decide +kernel
theorem dL_law_179 : decode cL_law 179 = .ok (.if_icmp .eq 911, 3) := by decide +kernel
theorem dL_law_182 : decode cL_law 182 = .ok (.iconst 0, 1) := by decide +kernel
theorem dL_law_183 : decode cL_law 183 = .ok (.ireturn, 1) := by decide +kernel
theorem dL_law_184 : decode cL_law 184 = .ok (.aload_n 1, 1) := by decide +kernel
theorem dL_law_185 : decode cL_law 185 = .ok (.invokevirtual 23, 3) := by decide +kernel
theorem dL_law_188 : decode cL_law 188 = .ok (.aload_n 2, 1) := by decide +kernel
theorem dL_law_189 : decode cL_law 189 = .ok (.invokevirtual 26, 3) := by decide +kernel
theorem dL_law_192 : decode cL_law 192 = .ok (.if_icmp .eq 898, 3) := by decide +kernel
theorem dL_law_195 : decode cL_law 195 = .ok (.iconst 0, 1) := by decide +kernel
theorem dL_law_196 : decode cL_law 196 = .ok (.ireturn, 1) := by decide +kernel
theorem dL_law_197 : decode cL_law 197 = .ok (.aload_n 1, 1) := by decide +kernel
theorem dL_law_198 : decode cL_law 198 = .ok (.invokevirtual 27, 3) := by decide +kernel
theorem dL_law_201 : decode cL_law 201 = .ok (.aload_n 2, 1) := by decide +kernel
theorem dL_law_202 : decode cL_law 202 = .ok (.invokevirtual 30, 3) := by decide +kernel
theorem dL_law_205 : decode cL_law 205 = .ok (.if_icmp .eq 885, 3) := by decide +kernel
theorem dL_law_208 : decode cL_law 208 = .ok (.iconst 0, 1) := by decide +kernel
theorem dL_law_209 : decode cL_law 209 = .ok (.ireturn, 1) := by decide +kernel
theorem dL_law_210 : decode cL_law 210 = .ok (.aload_n 1, 1) := by decide +kernel
theorem dL_law_211 : decode cL_law 211 = .ok (.aload_n 0, 1) := by decide +kernel
theorem dL_law_212 : decode cL_law 212 = .ok (.iload_n 3, 1) := by decide +kernel
theorem dL_law_213 : decode cL_law 213 = .ok (.iconst 1, 1) := by decide +kernel
theorem dL_law_214 : decode cL_law 214 = .ok (.iadd, 1) := by decide +kernel
theorem dL_law_215 : decode cL_law 215 = .ok (.iaload, 1) := by decide +kernel
theorem dL_law_216 : decode cL_law 216 = .ok (.invokevirtual 31, 3) := by decide +kernel
theorem dL_law_219 : decode cL_law 219 = .ok (.aload_n 2, 1) := by decide +kernel
theorem dL_law_220 : decode cL_law 220 = .ok (.aload_n 0, 1) := by decide +kernel
theorem dL_law_221 : decode cL_law 221 = .ok (.iload_n 3, 1) := by decide +kernel
theorem dL_law_222 : decode cL_law 222 = .ok (.iconst 1, 1) := by decide +kernel
theorem dL_law_223 : decode cL_law 223 = .ok (.iadd, 1) := by decide +kernel
theorem dL_law_224 : decode cL_law 224 = .ok (.iaload, 1) := by decide +kernel
theorem dL_law_225 : decode cL_law 225 = .ok (.invokevirtual 34, 3) := by decide +kernel
theorem dL_law_228 : decode cL_law 228 = .ok (.if_icmp .eq 862, 3) := by decide +kernel
theorem dL_law_231 : decode cL_law 231 = .ok (.iconst 0, 1) := by decide +kernel
theorem dL_law_232 : decode cL_law 232 = .ok (.ireturn, 1) := by decide +kernel
theorem dL_law_233 : decode cL_law 233 = .ok (.aload_n 1, 1) := by decide +kernel
theorem dL_law_234 : decode cL_law 234 = .ok (.aload_n 0, 1) := by decide +kernel
theorem dL_law_235 : decode cL_law 235 = .ok (.iload_n 3, 1) := by decide +kernel
theorem dL_law_236 : decode cL_law 236 = .ok (.iconst 1, 1) := by decide +kernel
theorem dL_law_237 : decode cL_law 237 = .ok (.iadd, 1) := by decide +kernel
theorem dL_law_238 : decode cL_law 238 = .ok (.iaload, 1) := by decide +kernel
theorem dL_law_239 : decode cL_law 239 = .ok (.aload_n 0, 1) := by decide +kernel
theorem dL_law_240 : decode cL_law 240 = .ok (.iload_n 3, 1) := by decide +kernel
theorem dL_law_241 : decode cL_law 241 = .ok (.iconst 2, 1) := by decide +kernel
theorem dL_law_242 : decode cL_law 242 = .ok (.iadd, 1) := by decide +kernel
theorem dL_law_243 : decode cL_law 243 = .ok (.iaload, 1) := by decide +kernel
theorem dL_law_244 : decode cL_law 244 = .ok (.invokevirtual 35, 3) := by decide +kernel
theorem dL_law_247 : decode cL_law 247 = .ok (.aload_n 2, 1) := by decide +kernel
theorem dL_law_248 : decode cL_law 248 = .ok (.aload_n 0, 1) := by decide +kernel
theorem dL_law_249 : decode cL_law 249 = .ok (.iload_n 3, 1) := by decide +kernel
theorem dL_law_250 : decode cL_law 250 = .ok (.iconst 1, 1) := by decide +kernel
theorem dL_law_251 : decode cL_law 251 = .ok (.iadd, 1) := by decide +kernel
theorem dL_law_252 : decode cL_law 252 = .ok (.iaload, 1) := by decide +kernel
theorem dL_law_253 : decode cL_law 253 = .ok (.aload_n 0, 1) := by decide +kernel
theorem dL_law_254 : decode cL_law 254 = .ok (.iload_n 3, 1) := by decide +kernel
theorem dL_law_255 : decode cL_law 255 = .ok (.iconst 2, 1) := by decide +kernel
theorem dL_law_256 : decode cL_law 256 = .ok (.iadd, 1) := by decide +kernel
theorem dL_law_257 : decode cL_law 257 = .ok (.iaload, 1) := by decide +kernel
theorem dL_law_258 : decode cL_law 258 = .ok (.invokevirtual 39, 3) := by decide +kernel
theorem dL_law_261 : decode cL_law 261 = .ok (.if_icmp .eq 829, 3) := by decide +kernel
theorem dL_law_264 : decode cL_law 264 = .ok (.iconst 0, 1) := by decide +kernel
theorem dL_law_265 : decode cL_law 265 = .ok (.ireturn, 1) := by decide +kernel
theorem dL_law_266 : decode cL_law 266 = .ok (.aload_n 1, 1) := by decide +kernel
theorem dL_law_267 : decode cL_law 267 = .ok (.aload_n 0, 1) := by decide +kernel
theorem dL_law_268 : decode cL_law 268 = .ok (.iload_n 3, 1) := by decide +kernel
theorem dL_law_269 : decode cL_law 269 = .ok (.iconst 1, 1) := by decide +kernel
theorem dL_law_270 : decode cL_law 270 = .ok (.iadd, 1) := by decide +kernel
theorem dL_law_271 : decode cL_law 271 = .ok (.iaload, 1) := by decide +kernel
theorem dL_law_272 : decode cL_law 272 = .ok (.invokevirtual 40, 3) := by decide +kernel
theorem dL_law_275 : decode cL_law 275 = .ok (.aload_n 2, 1) := by decide +kernel
theorem dL_law_276 : decode cL_law 276 = .ok (.aload_n 0, 1) := by decide +kernel
theorem dL_law_277 : decode cL_law 277 = .ok (.iload_n 3, 1) := by decide +kernel
theorem dL_law_278 : decode cL_law 278 = .ok (.iconst 1, 1) := by decide +kernel
theorem dL_law_279 : decode cL_law 279 = .ok (.iadd, 1) := by decide +kernel
theorem dL_law_280 : decode cL_law 280 = .ok (.iaload, 1) := by decide +kernel
theorem dL_law_281 : decode cL_law 281 = .ok (.invokevirtual 43, 3) := by decide +kernel
theorem dL_law_284 : decode cL_law 284 = .ok (.if_icmp .eq 806, 3) := by decide +kernel
theorem dL_law_287 : decode cL_law 287 = .ok (.iconst 0, 1) := by decide +kernel
theorem dL_law_288 : decode cL_law 288 = .ok (.ireturn, 1) := by decide +kernel
theorem dL_law_289 : decode cL_law 289 = .ok (.aload_n 1, 1) := by decide +kernel
theorem dL_law_290 : decode cL_law 290 = .ok (.aload_n 0, 1) := by decide +kernel
theorem dL_law_291 : decode cL_law 291 = .ok (.iload_n 3, 1) := by decide +kernel
theorem dL_law_292 : decode cL_law 292 = .ok (.iconst 1, 1) := by decide +kernel
theorem dL_law_293 : decode cL_law 293 = .ok (.iadd, 1) := by decide +kernel
theorem dL_law_294 : decode cL_law 294 = .ok (.iaload, 1) := by decide +kernel
theorem dL_law_295 : decode cL_law 295 = .ok (.invokevirtual 44, 3) := by decide +kernel
theorem dL_law_298 : decode cL_law 298 = .ok (.aload_n 2, 1) := by decide +kernel
theorem dL_law_299 : decode cL_law 299 = .ok (.aload_n 0, 1) := by decide +kernel
theorem dL_law_300 : decode cL_law 300 = .ok (.iload_n 3, 1) := by decide +kernel
theorem dL_law_301 : decode cL_law 301 = .ok (.iconst 1, 1) := by decide +kernel
theorem dL_law_302 : decode cL_law 302 = .ok (.iadd, 1) := by decide +kernel
theorem dL_law_303 : decode cL_law 303 = .ok (.iaload, 1) := by decide +kernel
theorem dL_law_304 : decode cL_law 304 = .ok (.invokevirtual 47, 3) := by decide +kernel
theorem dL_law_307 : decode cL_law 307 = .ok (.if_icmp .eq 783, 3) := by decide +kernel
theorem dL_law_310 : decode cL_law 310 = .ok (.iconst 0, 1) := by decide +kernel
theorem dL_law_311 : decode cL_law 311 = .ok (.ireturn, 1) := by decide +kernel
theorem dL_law_312 : decode cL_law 312 = .ok (.aload_n 1, 1) := by decide +kernel
theorem dL_law_313 : decode cL_law 313 = .ok (.invokevirtual 48, 3) := by decide +kernel
theorem dL_law_316 : decode cL_law 316 = .ok (.aload_n 2, 1) := by decide +kernel
theorem dL_law_317 : decode cL_law 317 = .ok (.invokevirtual 51, 3) := by decide +kernel
theorem dL_law_320 : decode cL_law 320 = .ok (.if_icmp .eq 770, 3) := by decide +kernel
theorem dL_law_323 : decode cL_law 323 = .ok (.iconst 0, 1) := by decide +kernel
theorem dL_law_324 : decode cL_law 324 = .ok (.ireturn, 1) := by decide +kernel
theorem dL_law_325 : decode cL_law 325 = .ok (.aload_n 1, 1) := by decide +kernel
theorem dL_law_326 : decode cL_law 326 = .ok (.invokevirtual 52, 3) := by decide +kernel
theorem dL_law_329 : decode cL_law 329 = .ok (.aload_n 2, 1) := by decide +kernel
theorem dL_law_330 : decode cL_law 330 = .ok (.invokevirtual 55, 3) := by decide +kernel
theorem dL_law_333 : decode cL_law 333 = .ok (.if_icmp .eq 757, 3) := by decide +kernel
theorem dL_law_336 : decode cL_law 336 = .ok (.iconst 0, 1) := by decide +kernel
theorem dL_law_337 : decode cL_law 337 = .ok (.ireturn, 1) := by decide +kernel
theorem dL_law_338 : decode cL_law 338 = .ok (.aload_n 1, 1) := by decide +kernel
theorem dL_law_339 : decode cL_law 339 = .ok (.aload_n 0, 1) := by decide +kernel
theorem dL_law_340 : decode cL_law 340 = .ok (.iload_n 3, 1) := by decide +kernel
theorem dL_law_341 : decode cL_law 341 = .ok (.iconst 1, 1) := by decide +kernel
theorem dL_law_342 : decode cL_law 342 = .ok (.iadd, 1) := by decide +kernel
theorem dL_law_343 : decode cL_law 343 = .ok (.iaload, 1) := by decide +kernel
theorem dL_law_344 : decode cL_law 344 = .ok (.aload_n 0, 1) := by decide +kernel
theorem dL_law_345 : decode cL_law 345 = .ok (.iload_n 3, 1) := by decide +kernel
theorem dL_law_346 : decode cL_law 346 = .ok (.iconst 2, 1) := by decide +kernel
theorem dL_law_347 : decode cL_law 347 = .ok (.iadd, 1) := by decide +kernel
theorem dL_law_348 : decode cL_law 348 = .ok (.iaload, 1) := by decide +kernel
theorem dL_law_349 : decode cL_law 349 = .ok (.i2l, 1) := by decide +kernel
theorem dL_law_350 : decode cL_law 350 = .ok (.bipush 32, 2) := by decide +kernel
theorem dL_law_352 : decode cL_law 352 = .ok (.lshl, 1) := by decide +kernel
theorem dL_law_353 : decode cL_law 353 = .ok (.aload_n 0, 1) := by decide +kernel
theorem dL_law_354 : decode cL_law 354 = .ok (.iload_n 3, 1) := by decide +kernel
theorem dL_law_355 : decode cL_law 355 = .ok (.iconst 3, 1) := by decide +kernel
theorem dL_law_356 : decode cL_law 356 = .ok (.iadd, 1) := by decide +kernel
theorem dL_law_357 : decode cL_law 357 = .ok (.iaload, 1) := by decide +kernel
theorem dL_law_358 : decode cL_law 358 = .ok (.i2l, 1) := by decide +kernel
theorem dL_law_359 : decode cL_law 359 = .ok (.ldc2_w 56, 3) := by decide +kernel
theorem dL_law_362 : decode cL_law 362 = .ok (.land, 1) := by decide +kernel
theorem dL_law_363 : decode cL_law 363 = .ok (.lor, 1) := by decide +kernel
theorem dL_law_364 : decode cL_law 364 = .ok (.invokevirtual 58, 3) := by decide +kernel
theorem dL_law_367 : decode cL_law 367 = .ok (.aload_n 2, 1) := by decide +kernel
theorem dL_law_368 : decode cL_law 368 = .ok (.aload_n 0, 1) := by decide +kernel
theorem dL_law_369 : decode cL_law 369 = .ok (.iload_n 3, 1) := by decide +kernel
theorem dL_law_370 : decode cL_law 370 = .ok (.iconst 1, 1) := by decide +kernel
theorem dL_law_371 : decode cL_law 371 = .ok (.iadd, 1) := by decide +kernel
theorem dL_law_372 : decode cL_law 372 = .ok (.iaload, 1) := by decide +kernel
theorem dL_law_373 : decode cL_law 373 = .ok (.aload_n 0, 1) := by decide +kernel
theorem dL_law_374 : decode cL_law 374 = .ok (.iload_n 3, 1) := by decide +kernel
theorem dL_law_375 : decode cL_law 375 = .ok (.iconst 2, 1) := by decide +kernel
theorem dL_law_376 : decode cL_law 376 = .ok (.iadd, 1) := by decide +kernel
theorem dL_law_377 : decode cL_law 377 = .ok (.iaload, 1) := by decide +kernel
theorem dL_law_378 : decode cL_law 378 = .ok (.i2l, 1) := by decide +kernel
theorem dL_law_379 : decode cL_law 379 = .ok (.bipush 32, 2) := by decide +kernel
theorem dL_law_381 : decode cL_law 381 = .ok (.lshl, 1) := by decide +kernel
theorem dL_law_382 : decode cL_law 382 = .ok (.aload_n 0, 1) := by decide +kernel
theorem dL_law_383 : decode cL_law 383 = .ok (.iload_n 3, 1) := by decide +kernel
theorem dL_law_384 : decode cL_law 384 = .ok (.iconst 3, 1) := by decide +kernel
theorem dL_law_385 : decode cL_law 385 = .ok (.iadd, 1) := by decide +kernel
theorem dL_law_386 : decode cL_law 386 = .ok (.iaload, 1) := by decide +kernel
theorem dL_law_387 : decode cL_law 387 = .ok (.i2l, 1) := by decide +kernel
theorem dL_law_388 : decode cL_law 388 = .ok (.ldc2_w 56, 3) := by decide +kernel
theorem dL_law_391 : decode cL_law 391 = .ok (.land, 1) := by decide +kernel
theorem dL_law_392 : decode cL_law 392 = .ok (.lor, 1) := by decide +kernel
theorem dL_law_393 : decode cL_law 393 = .ok (.invokevirtual 62, 3) := by decide +kernel
theorem dL_law_396 : decode cL_law 396 = .ok (.if_icmp .eq 694, 3) := by decide +kernel
theorem dL_law_399 : decode cL_law 399 = .ok (.iconst 0, 1) := by decide +kernel
theorem dL_law_400 : decode cL_law 400 = .ok (.ireturn, 1) := by decide +kernel
theorem dL_law_401 : decode cL_law 401 = .ok (.aload_n 1, 1) := by decide +kernel
theorem dL_law_402 : decode cL_law 402 = .ok (.aload_n 0, 1) := by decide +kernel
theorem dL_law_403 : decode cL_law 403 = .ok (.iload_n 3, 1) := by decide +kernel
theorem dL_law_404 : decode cL_law 404 = .ok (.iconst 1, 1) := by decide +kernel
theorem dL_law_405 : decode cL_law 405 = .ok (.iadd, 1) := by decide +kernel
theorem dL_law_406 : decode cL_law 406 = .ok (.iaload, 1) := by decide +kernel
theorem dL_law_407 : decode cL_law 407 = .ok (.aload_n 0, 1) := by decide +kernel
theorem dL_law_408 : decode cL_law 408 = .ok (.iload_n 3, 1) := by decide +kernel
theorem dL_law_409 : decode cL_law 409 = .ok (.iconst 2, 1) := by decide +kernel
theorem dL_law_410 : decode cL_law 410 = .ok (.iadd, 1) := by decide +kernel
theorem dL_law_411 : decode cL_law 411 = .ok (.iaload, 1) := by decide +kernel
theorem dL_law_412 : decode cL_law 412 = .ok (.i2l, 1) := by decide +kernel
theorem dL_law_413 : decode cL_law 413 = .ok (.bipush 32, 2) := by decide +kernel
theorem dL_law_415 : decode cL_law 415 = .ok (.lshl, 1) := by decide +kernel
theorem dL_law_416 : decode cL_law 416 = .ok (.aload_n 0, 1) := by decide +kernel
theorem dL_law_417 : decode cL_law 417 = .ok (.iload_n 3, 1) := by decide +kernel
theorem dL_law_418 : decode cL_law 418 = .ok (.iconst 3, 1) := by decide +kernel
theorem dL_law_419 : decode cL_law 419 = .ok (.iadd, 1) := by decide +kernel
theorem dL_law_420 : decode cL_law 420 = .ok (.iaload, 1) := by decide +kernel
theorem dL_law_421 : decode cL_law 421 = .ok (.i2l, 1) := by decide +kernel
theorem dL_law_422 : decode cL_law 422 = .ok (.ldc2_w 56, 3) := by decide +kernel
theorem dL_law_425 : decode cL_law 425 = .ok (.land, 1) := by decide +kernel
theorem dL_law_426 : decode cL_law 426 = .ok (.lor, 1) := by decide +kernel
theorem dL_law_427 : decode cL_law 427 = .ok (.invokevirtual 63, 3) := by decide +kernel
theorem dL_law_430 : decode cL_law 430 = .ok (.aload_n 2, 1) := by decide +kernel
theorem dL_law_431 : decode cL_law 431 = .ok (.aload_n 0, 1) := by decide +kernel
theorem dL_law_432 : decode cL_law 432 = .ok (.iload_n 3, 1) := by decide +kernel
theorem dL_law_433 : decode cL_law 433 = .ok (.iconst 1, 1) := by decide +kernel
theorem dL_law_434 : decode cL_law 434 = .ok (.iadd, 1) := by decide +kernel
theorem dL_law_435 : decode cL_law 435 = .ok (.iaload, 1) := by decide +kernel
theorem dL_law_436 : decode cL_law 436 = .ok (.aload_n 0, 1) := by decide +kernel
theorem dL_law_437 : decode cL_law 437 = .ok (.iload_n 3, 1) := by decide +kernel
theorem dL_law_438 : decode cL_law 438 = .ok (.iconst 2, 1) := by decide +kernel
theorem dL_law_439 : decode cL_law 439 = .ok (.iadd, 1) := by decide +kernel
theorem dL_law_440 : decode cL_law 440 = .ok (.iaload, 1) := by decide +kernel
theorem dL_law_441 : decode cL_law 441 = .ok (.i2l, 1) := by decide +kernel
theorem dL_law_442 : decode cL_law 442 = .ok (.bipush 32, 2) := by decide +kernel
theorem dL_law_444 : decode cL_law 444 = .ok (.lshl, 1) := by decide +kernel
theorem dL_law_445 : decode cL_law 445 = .ok (.aload_n 0, 1) := by decide +kernel
theorem dL_law_446 : decode cL_law 446 = .ok (.iload_n 3, 1) := by decide +kernel
theorem dL_law_447 : decode cL_law 447 = .ok (.iconst 3, 1) := by decide +kernel
theorem dL_law_448 : decode cL_law 448 = .ok (.iadd, 1) := by decide +kernel
theorem dL_law_449 : decode cL_law 449 = .ok (.iaload, 1) := by decide +kernel
theorem dL_law_450 : decode cL_law 450 = .ok (.i2l, 1) := by decide +kernel
theorem dL_law_451 : decode cL_law 451 = .ok (.ldc2_w 56, 3) := by decide +kernel
theorem dL_law_454 : decode cL_law 454 = .ok (.land, 1) := by decide +kernel
theorem dL_law_455 : decode cL_law 455 = .ok (.lor, 1) := by decide +kernel
theorem dL_law_456 : decode cL_law 456 = .ok (.invokevirtual 66, 3) := by decide +kernel
theorem dL_law_459 : decode cL_law 459 = .ok (.if_icmp .eq 631, 3) := by decide +kernel
theorem dL_law_462 : decode cL_law 462 = .ok (.iconst 0, 1) := by decide +kernel
theorem dL_law_463 : decode cL_law 463 = .ok (.ireturn, 1) := by decide +kernel
theorem dL_law_464 : decode cL_law 464 = .ok (.aload_n 1, 1) := by decide +kernel
theorem dL_law_465 : decode cL_law 465 = .ok (.aload_n 0, 1) := by decide +kernel
theorem dL_law_466 : decode cL_law 466 = .ok (.iload_n 3, 1) := by decide +kernel
theorem dL_law_467 : decode cL_law 467 = .ok (.iconst 1, 1) := by decide +kernel
theorem dL_law_468 : decode cL_law 468 = .ok (.iadd, 1) := by decide +kernel
theorem dL_law_469 : decode cL_law 469 = .ok (.iaload, 1) := by decide +kernel
theorem dL_law_470 : decode cL_law 470 = .ok (.aload_n 0, 1) := by decide +kernel
theorem dL_law_471 : decode cL_law 471 = .ok (.iload_n 3, 1) := by decide +kernel
theorem dL_law_472 : decode cL_law 472 = .ok (.iconst 2, 1) := by decide +kernel
theorem dL_law_473 : decode cL_law 473 = .ok (.iadd, 1) := by decide +kernel
theorem dL_law_474 : decode cL_law 474 = .ok (.iaload, 1) := by decide +kernel
theorem dL_law_475 : decode cL_law 475 = .ok (.i2l, 1) := by decide +kernel
theorem dL_law_476 : decode cL_law 476 = .ok (.bipush 32, 2) := by decide +kernel
theorem dL_law_478 : decode cL_law 478 = .ok (.lshl, 1) := by decide +kernel
theorem dL_law_479 : decode cL_law 479 = .ok (.aload_n 0, 1) := by decide +kernel
theorem dL_law_480 : decode cL_law 480 = .ok (.iload_n 3, 1) := by decide +kernel
theorem dL_law_481 : decode cL_law 481 = .ok (.iconst 3, 1) := by decide +kernel
theorem dL_law_482 : decode cL_law 482 = .ok (.iadd, 1) := by decide +kernel
theorem dL_law_483 : decode cL_law 483 = .ok (.iaload, 1) := by decide +kernel
theorem dL_law_484 : decode cL_law 484 = .ok (.i2l, 1) := by decide +kernel
theorem dL_law_485 : decode cL_law 485 = .ok (.ldc2_w 56, 3) := by decide +kernel
theorem dL_law_488 : decode cL_law 488 = .ok (.land, 1) := by decide +kernel
theorem dL_law_489 : decode cL_law 489 = .ok (.lor, 1) := by decide +kernel
theorem dL_law_490 : decode cL_law 490 = .ok (.aload_n 0, 1) := by decide +kernel
theorem dL_law_491 : decode cL_law 491 = .ok (.iload_n 3, 1) := by decide +kernel
theorem dL_law_492 : decode cL_law 492 = .ok (.iconst 4, 1) := by decide +kernel
theorem dL_law_493 : decode cL_law 493 = .ok (.iadd, 1) := by decide +kernel
theorem dL_law_494 : decode cL_law 494 = .ok (.iaload, 1) := by decide +kernel
theorem dL_law_495 : decode cL_law 495 = .ok (.invokevirtual 67, 3) := by decide +kernel
theorem dL_law_498 : decode cL_law 498 = .ok (.aload_n 2, 1) := by decide +kernel
theorem dL_law_499 : decode cL_law 499 = .ok (.aload_n 0, 1) := by decide +kernel
theorem dL_law_500 : decode cL_law 500 = .ok (.iload_n 3, 1) := by decide +kernel
theorem dL_law_501 : decode cL_law 501 = .ok (.iconst 1, 1) := by decide +kernel
theorem dL_law_502 : decode cL_law 502 = .ok (.iadd, 1) := by decide +kernel
theorem dL_law_503 : decode cL_law 503 = .ok (.iaload, 1) := by decide +kernel
theorem dL_law_504 : decode cL_law 504 = .ok (.aload_n 0, 1) := by decide +kernel
theorem dL_law_505 : decode cL_law 505 = .ok (.iload_n 3, 1) := by decide +kernel
theorem dL_law_506 : decode cL_law 506 = .ok (.iconst 2, 1) := by decide +kernel
theorem dL_law_507 : decode cL_law 507 = .ok (.iadd, 1) := by decide +kernel
theorem dL_law_508 : decode cL_law 508 = .ok (.iaload, 1) := by decide +kernel
theorem dL_law_509 : decode cL_law 509 = .ok (.i2l, 1) := by decide +kernel
theorem dL_law_510 : decode cL_law 510 = .ok (.bipush 32, 2) := by decide +kernel
theorem dL_law_512 : decode cL_law 512 = .ok (.lshl, 1) := by decide +kernel
theorem dL_law_513 : decode cL_law 513 = .ok (.aload_n 0, 1) := by decide +kernel
theorem dL_law_514 : decode cL_law 514 = .ok (.iload_n 3, 1) := by decide +kernel
theorem dL_law_515 : decode cL_law 515 = .ok (.iconst 3, 1) := by decide +kernel
theorem dL_law_516 : decode cL_law 516 = .ok (.iadd, 1) := by decide +kernel
theorem dL_law_517 : decode cL_law 517 = .ok (.iaload, 1) := by decide +kernel
theorem dL_law_518 : decode cL_law 518 = .ok (.i2l, 1) := by decide +kernel
theorem dL_law_519 : decode cL_law 519 = .ok (.ldc2_w 56, 3) := by decide +kernel
theorem dL_law_522 : decode cL_law 522 = .ok (.land, 1) := by decide +kernel
theorem dL_law_523 : decode cL_law 523 = .ok (.lor, 1) := by decide +kernel
theorem dL_law_524 : decode cL_law 524 = .ok (.aload_n 0, 1) := by decide +kernel
theorem dL_law_525 : decode cL_law 525 = .ok (.iload_n 3, 1) := by decide +kernel
theorem dL_law_526 : decode cL_law 526 = .ok (.iconst 4, 1) := by decide +kernel
theorem dL_law_527 : decode cL_law 527 = .ok (.iadd, 1) := by decide +kernel
theorem dL_law_528 : decode cL_law 528 = .ok (.iaload, 1) := by decide +kernel
theorem dL_law_529 : decode cL_law 529 = .ok (.invokevirtual 71, 3) := by decide +kernel
theorem dL_law_532 : decode cL_law 532 = .ok (.if_icmp .eq 558, 3) := by decide +kernel
theorem dL_law_535 : decode cL_law 535 = .ok (.iconst 0, 1) := by decide +kernel
theorem dL_law_536 : decode cL_law 536 = .ok (.ireturn, 1) := by decide +kernel
theorem dL_law_537 : decode cL_law 537 = .ok (.aload_n 1, 1) := by decide +kernel
theorem dL_law_538 : decode cL_law 538 = .ok (.aload_n 0, 1) := by decide +kernel
theorem dL_law_539 : decode cL_law 539 = .ok (.iload_n 3, 1) := by decide +kernel
theorem dL_law_540 : decode cL_law 540 = .ok (.iconst 1, 1) := by decide +kernel
theorem dL_law_541 : decode cL_law 541 = .ok (.iadd, 1) := by decide +kernel
theorem dL_law_542 : decode cL_law 542 = .ok (.iaload, 1) := by decide +kernel
theorem dL_law_543 : decode cL_law 543 = .ok (.aload_n 0, 1) := by decide +kernel
theorem dL_law_544 : decode cL_law 544 = .ok (.iload_n 3, 1) := by decide +kernel
theorem dL_law_545 : decode cL_law 545 = .ok (.iconst 2, 1) := by decide +kernel
theorem dL_law_546 : decode cL_law 546 = .ok (.iadd, 1) := by decide +kernel
theorem dL_law_547 : decode cL_law 547 = .ok (.iaload, 1) := by decide +kernel
theorem dL_law_548 : decode cL_law 548 = .ok (.aload_n 0, 1) := by decide +kernel
theorem dL_law_549 : decode cL_law 549 = .ok (.iload_n 3, 1) := by decide +kernel
theorem dL_law_550 : decode cL_law 550 = .ok (.iconst 3, 1) := by decide +kernel
theorem dL_law_551 : decode cL_law 551 = .ok (.iadd, 1) := by decide +kernel
theorem dL_law_552 : decode cL_law 552 = .ok (.iaload, 1) := by decide +kernel
theorem dL_law_553 : decode cL_law 553 = .ok (.i2l, 1) := by decide +kernel
theorem dL_law_554 : decode cL_law 554 = .ok (.bipush 32, 2) := by decide +kernel
theorem dL_law_556 : decode cL_law 556 = .ok (.lshl, 1) := by decide +kernel
theorem dL_law_557 : decode cL_law 557 = .ok (.aload_n 0, 1) := by decide +kernel
theorem dL_law_558 : decode cL_law 558 = .ok (.iload_n 3, 1) := by decide +kernel
theorem dL_law_559 : decode cL_law 559 = .ok (.iconst 4, 1) := by decide +kernel
theorem dL_law_560 : decode cL_law 560 = .ok (.iadd, 1) := by decide +kernel
theorem dL_law_561 : decode cL_law 561 = .ok (.iaload, 1) := by decide +kernel
theorem dL_law_562 : decode cL_law 562 = .ok (.i2l, 1) := by decide +kernel
theorem dL_law_563 : decode cL_law 563 = .ok (.ldc2_w 56, 3) := by decide +kernel
theorem dL_law_566 : decode cL_law 566 = .ok (.land, 1) := by decide +kernel
theorem dL_law_567 : decode cL_law 567 = .ok (.lor, 1) := by decide +kernel
theorem dL_law_568 : decode cL_law 568 = .ok (.aload_n 0, 1) := by decide +kernel
theorem dL_law_569 : decode cL_law 569 = .ok (.iload_n 3, 1) := by decide +kernel
theorem dL_law_570 : decode cL_law 570 = .ok (.iconst 5, 1) := by decide +kernel
theorem dL_law_571 : decode cL_law 571 = .ok (.iadd, 1) := by decide +kernel
theorem dL_law_572 : decode cL_law 572 = .ok (.iaload, 1) := by decide +kernel
theorem dL_law_573 : decode cL_law 573 = .ok (.ifCond .eq 7, 3) := by decide +kernel
theorem dL_law_576 : decode cL_law 576 = .ok (.iconst 1, 1) := by decide +kernel
theorem dL_law_577 : decode cL_law 577 = .ok (.goto 4, 3) := by decide +kernel
theorem dL_law_580 : decode cL_law 580 = .ok (.iconst 0, 1) := by decide +kernel
theorem dL_law_581 : decode cL_law 581 = .ok (.invokevirtual 72, 3) := by decide +kernel
theorem dL_law_584 : decode cL_law 584 = .ok (.aload_n 2, 1) := by decide +kernel
theorem dL_law_585 : decode cL_law 585 = .ok (.aload_n 0, 1) := by decide +kernel
theorem dL_law_586 : decode cL_law 586 = .ok (.iload_n 3, 1) := by decide +kernel
theorem dL_law_587 : decode cL_law 587 = .ok (.iconst 1, 1) := by decide +kernel
theorem dL_law_588 : decode cL_law 588 = .ok (.iadd, 1) := by decide +kernel
theorem dL_law_589 : decode cL_law 589 = .ok (.iaload, 1) := by decide +kernel
theorem dL_law_590 : decode cL_law 590 = .ok (.aload_n 0, 1) := by decide +kernel
theorem dL_law_591 : decode cL_law 591 = .ok (.iload_n 3, 1) := by decide +kernel
theorem dL_law_592 : decode cL_law 592 = .ok (.iconst 2, 1) := by decide +kernel
theorem dL_law_593 : decode cL_law 593 = .ok (.iadd, 1) := by decide +kernel
theorem dL_law_594 : decode cL_law 594 = .ok (.iaload, 1) := by decide +kernel
theorem dL_law_595 : decode cL_law 595 = .ok (.aload_n 0, 1) := by decide +kernel
theorem dL_law_596 : decode cL_law 596 = .ok (.iload_n 3, 1) := by decide +kernel
theorem dL_law_597 : decode cL_law 597 = .ok (.iconst 3, 1) := by decide +kernel
theorem dL_law_598 : decode cL_law 598 = .ok (.iadd, 1) := by decide +kernel
theorem dL_law_599 : decode cL_law 599 = .ok (.iaload, 1) := by decide +kernel
theorem dL_law_600 : decode cL_law 600 = .ok (.i2l, 1) := by decide +kernel
theorem dL_law_601 : decode cL_law 601 = .ok (.bipush 32, 2) := by decide +kernel
theorem dL_law_603 : decode cL_law 603 = .ok (.lshl, 1) := by decide +kernel
theorem dL_law_604 : decode cL_law 604 = .ok (.aload_n 0, 1) := by decide +kernel
theorem dL_law_605 : decode cL_law 605 = .ok (.iload_n 3, 1) := by decide +kernel
theorem dL_law_606 : decode cL_law 606 = .ok (.iconst 4, 1) := by decide +kernel
theorem dL_law_607 : decode cL_law 607 = .ok (.iadd, 1) := by decide +kernel
theorem dL_law_608 : decode cL_law 608 = .ok (.iaload, 1) := by decide +kernel
theorem dL_law_609 : decode cL_law 609 = .ok (.i2l, 1) := by decide +kernel
theorem dL_law_610 : decode cL_law 610 = .ok (.ldc2_w 56, 3) := by decide +kernel
theorem dL_law_613 : decode cL_law 613 = .ok (.land, 1) := by decide +kernel
theorem dL_law_614 : decode cL_law 614 = .ok (.lor, 1) := by decide +kernel
theorem dL_law_615 : decode cL_law 615 = .ok (.aload_n 0, 1) := by decide +kernel
theorem dL_law_616 : decode cL_law 616 = .ok (.iload_n 3, 1) := by decide +kernel
theorem dL_law_617 : decode cL_law 617 = .ok (.iconst 5, 1) := by decide +kernel
theorem dL_law_618 : decode cL_law 618 = .ok (.iadd, 1) := by decide +kernel
theorem dL_law_619 : decode cL_law 619 = .ok (.iaload, 1) := by decide +kernel
theorem dL_law_620 : decode cL_law 620 = .ok (.ifCond .eq 7, 3) := by decide +kernel
theorem dL_law_623 : decode cL_law 623 = .ok (.iconst 1, 1) := by decide +kernel
theorem dL_law_624 : decode cL_law 624 = .ok (.goto 4, 3) := by decide +kernel
theorem dL_law_627 : decode cL_law 627 = .ok (.iconst 0, 1) := by decide +kernel
theorem dL_law_628 : decode cL_law 628 = .ok (.invokevirtual 76, 3) := by decide +kernel
theorem dL_law_631 : decode cL_law 631 = .ok (.if_icmp .eq 459, 3) := by decide +kernel
theorem dL_law_634 : decode cL_law 634 = .ok (.iconst 0, 1) := by decide +kernel
theorem dL_law_635 : decode cL_law 635 = .ok (.ireturn, 1) := by decide +kernel
theorem dL_law_636 : decode cL_law 636 = .ok (.aload_n 1, 1) := by decide +kernel
theorem dL_law_637 : decode cL_law 637 = .ok (.aload_n 0, 1) := by decide +kernel
theorem dL_law_638 : decode cL_law 638 = .ok (.iload_n 3, 1) := by decide +kernel
theorem dL_law_639 : decode cL_law 639 = .ok (.iconst 1, 1) := by decide +kernel
theorem dL_law_640 : decode cL_law 640 = .ok (.iadd, 1) := by decide +kernel
theorem dL_law_641 : decode cL_law 641 = .ok (.iaload, 1) := by decide +kernel
theorem dL_law_642 : decode cL_law 642 = .ok (.invokevirtual 77, 3) := by decide +kernel
theorem dL_law_645 : decode cL_law 645 = .ok (.aload_n 2, 1) := by decide +kernel
theorem dL_law_646 : decode cL_law 646 = .ok (.aload_n 0, 1) := by decide +kernel
theorem dL_law_647 : decode cL_law 647 = .ok (.iload_n 3, 1) := by decide +kernel
theorem dL_law_648 : decode cL_law 648 = .ok (.iconst 1, 1) := by decide +kernel
theorem dL_law_649 : decode cL_law 649 = .ok (.iadd, 1) := by decide +kernel
theorem dL_law_650 : decode cL_law 650 = .ok (.iaload, 1) := by decide +kernel
theorem dL_law_651 : decode cL_law 651 = .ok (.invokevirtual 80, 3) := by decide +kernel
theorem dL_law_654 : decode cL_law 654 = .ok (.if_icmp .eq 436, 3) := by decide +kernel
theorem dL_law_657 : decode cL_law 657 = .ok (.iconst 0, 1) := by decide +kernel
theorem dL_law_658 : decode cL_law 658 = .ok (.ireturn, 1) := by decide +kernel
theorem dL_law_659 : decode cL_law 659 = .ok (.aload_n 1, 1) := by decide +kernel
theorem dL_law_660 : decode cL_law 660 = .ok (.aload_n 0, 1) := by decide +kernel
theorem dL_law_661 : decode cL_law 661 = .ok (.iload_n 3, 1) := by decide +kernel
theorem dL_law_662 : decode cL_law 662 = .ok (.iconst 1, 1) := by decide +kernel
theorem dL_law_663 : decode cL_law 663 = .ok (.iadd, 1) := by decide +kernel
theorem dL_law_664 : decode cL_law 664 = .ok (.iaload, 1) := by decide +kernel
theorem dL_law_665 : decode cL_law 665 = .ok (.aload_n 0, 1) := by decide +kernel
theorem dL_law_666 : decode cL_law 666 = .ok (.iload_n 3, 1) := by decide +kernel
theorem dL_law_667 : decode cL_law 667 = .ok (.iconst 2, 1) := by decide +kernel
theorem dL_law_668 : decode cL_law 668 = .ok (.iadd, 1) := by decide +kernel
theorem dL_law_669 : decode cL_law 669 = .ok (.iaload, 1) := by decide +kernel
theorem dL_law_670 : decode cL_law 670 = .ok (.aload_n 0, 1) := by decide +kernel
theorem dL_law_671 : decode cL_law 671 = .ok (.iload_n 3, 1) := by decide +kernel
theorem dL_law_672 : decode cL_law 672 = .ok (.iconst 3, 1) := by decide +kernel
theorem dL_law_673 : decode cL_law 673 = .ok (.iadd, 1) := by decide +kernel
theorem dL_law_674 : decode cL_law 674 = .ok (.iaload, 1) := by decide +kernel
theorem dL_law_675 : decode cL_law 675 = .ok (.aload_n 0, 1) := by decide +kernel
theorem dL_law_676 : decode cL_law 676 = .ok (.iload_n 3, 1) := by decide +kernel
theorem dL_law_677 : decode cL_law 677 = .ok (.iconst 4, 1) := by decide +kernel
theorem dL_law_678 : decode cL_law 678 = .ok (.iadd, 1) := by decide +kernel
theorem dL_law_679 : decode cL_law 679 = .ok (.iaload, 1) := by decide +kernel
theorem dL_law_680 : decode cL_law 680 = .ok (.aload_n 0, 1) := by decide +kernel
theorem dL_law_681 : decode cL_law 681 = .ok (.iload_n 3, 1) := by decide +kernel
theorem dL_law_682 : decode cL_law 682 = .ok (.iconst 5, 1) := by decide +kernel
theorem dL_law_683 : decode cL_law 683 = .ok (.iadd, 1) := by decide +kernel
theorem dL_law_684 : decode cL_law 684 = .ok (.iaload, 1) := by decide +kernel
theorem dL_law_685 : decode cL_law 685 = .ok (.ifCond .eq 7, 3) := by decide +kernel
theorem dL_law_688 : decode cL_law 688 = .ok (.iconst 1, 1) := by decide +kernel
theorem dL_law_689 : decode cL_law 689 = .ok (.goto 4, 3) := by decide +kernel
theorem dL_law_692 : decode cL_law 692 = .ok (.iconst 0, 1) := by decide +kernel
theorem dL_law_693 : decode cL_law 693 = .ok (.invokevirtual 81, 3) := by decide +kernel
theorem dL_law_696 : decode cL_law 696 = .ok (.aload_n 2, 1) := by decide +kernel
theorem dL_law_697 : decode cL_law 697 = .ok (.aload_n 0, 1) := by decide +kernel
theorem dL_law_698 : decode cL_law 698 = .ok (.iload_n 3, 1) := by decide +kernel
theorem dL_law_699 : decode cL_law 699 = .ok (.iconst 1, 1) := by decide +kernel
theorem dL_law_700 : decode cL_law 700 = .ok (.iadd, 1) := by decide +kernel
theorem dL_law_701 : decode cL_law 701 = .ok (.iaload, 1) := by decide +kernel
theorem dL_law_702 : decode cL_law 702 = .ok (.aload_n 0, 1) := by decide +kernel
theorem dL_law_703 : decode cL_law 703 = .ok (.iload_n 3, 1) := by decide +kernel
theorem dL_law_704 : decode cL_law 704 = .ok (.iconst 2, 1) := by decide +kernel
theorem dL_law_705 : decode cL_law 705 = .ok (.iadd, 1) := by decide +kernel
theorem dL_law_706 : decode cL_law 706 = .ok (.iaload, 1) := by decide +kernel
theorem dL_law_707 : decode cL_law 707 = .ok (.aload_n 0, 1) := by decide +kernel
theorem dL_law_708 : decode cL_law 708 = .ok (.iload_n 3, 1) := by decide +kernel
theorem dL_law_709 : decode cL_law 709 = .ok (.iconst 3, 1) := by decide +kernel
theorem dL_law_710 : decode cL_law 710 = .ok (.iadd, 1) := by decide +kernel
theorem dL_law_711 : decode cL_law 711 = .ok (.iaload, 1) := by decide +kernel
theorem dL_law_712 : decode cL_law 712 = .ok (.aload_n 0, 1) := by decide +kernel
theorem dL_law_713 : decode cL_law 713 = .ok (.iload_n 3, 1) := by decide +kernel
theorem dL_law_714 : decode cL_law 714 = .ok (.iconst 4, 1) := by decide +kernel
theorem dL_law_715 : decode cL_law 715 = .ok (.iadd, 1) := by decide +kernel
theorem dL_law_716 : decode cL_law 716 = .ok (.iaload, 1) := by decide +kernel
theorem dL_law_717 : decode cL_law 717 = .ok (.aload_n 0, 1) := by decide +kernel
theorem dL_law_718 : decode cL_law 718 = .ok (.iload_n 3, 1) := by decide +kernel
theorem dL_law_719 : decode cL_law 719 = .ok (.iconst 5, 1) := by decide +kernel
theorem dL_law_720 : decode cL_law 720 = .ok (.iadd, 1) := by decide +kernel
theorem dL_law_721 : decode cL_law 721 = .ok (.iaload, 1) := by decide +kernel
theorem dL_law_722 : decode cL_law 722 = .ok (.ifCond .eq 7, 3) := by decide +kernel
theorem dL_law_725 : decode cL_law 725 = .ok (.iconst 1, 1) := by decide +kernel
theorem dL_law_726 : decode cL_law 726 = .ok (.goto 4, 3) := by decide +kernel
theorem dL_law_729 : decode cL_law 729 = .ok (.iconst 0, 1) := by decide +kernel
theorem dL_law_730 : decode cL_law 730 = .ok (.invokevirtual 85, 3) := by decide +kernel
theorem dL_law_733 : decode cL_law 733 = .ok (.if_icmp .eq 357, 3) := by decide +kernel
theorem dL_law_736 : decode cL_law 736 = .ok (.iconst 0, 1) := by decide +kernel
theorem dL_law_737 : decode cL_law 737 = .ok (.ireturn, 1) := by decide +kernel
theorem dL_law_738 : decode cL_law 738 = .ok (.aload_n 1, 1) := by decide +kernel
theorem dL_law_739 : decode cL_law 739 = .ok (.aload_n 0, 1) := by decide +kernel
theorem dL_law_740 : decode cL_law 740 = .ok (.iload_n 3, 1) := by decide +kernel
theorem dL_law_741 : decode cL_law 741 = .ok (.iconst 1, 1) := by decide +kernel
theorem dL_law_742 : decode cL_law 742 = .ok (.iadd, 1) := by decide +kernel
theorem dL_law_743 : decode cL_law 743 = .ok (.iaload, 1) := by decide +kernel
theorem dL_law_744 : decode cL_law 744 = .ok (.aload_n 0, 1) := by decide +kernel
theorem dL_law_745 : decode cL_law 745 = .ok (.iload_n 3, 1) := by decide +kernel
theorem dL_law_746 : decode cL_law 746 = .ok (.iconst 2, 1) := by decide +kernel
theorem dL_law_747 : decode cL_law 747 = .ok (.iadd, 1) := by decide +kernel
theorem dL_law_748 : decode cL_law 748 = .ok (.iaload, 1) := by decide +kernel
theorem dL_law_749 : decode cL_law 749 = .ok (.aload_n 0, 1) := by decide +kernel
theorem dL_law_750 : decode cL_law 750 = .ok (.iload_n 3, 1) := by decide +kernel
theorem dL_law_751 : decode cL_law 751 = .ok (.iconst 3, 1) := by decide +kernel
theorem dL_law_752 : decode cL_law 752 = .ok (.iadd, 1) := by decide +kernel
theorem dL_law_753 : decode cL_law 753 = .ok (.iaload, 1) := by decide +kernel
theorem dL_law_754 : decode cL_law 754 = .ok (.ifCond .eq 7, 3) := by decide +kernel
theorem dL_law_757 : decode cL_law 757 = .ok (.iconst 1, 1) := by decide +kernel
theorem dL_law_758 : decode cL_law 758 = .ok (.goto 4, 3) := by decide +kernel
theorem dL_law_761 : decode cL_law 761 = .ok (.iconst 0, 1) := by decide +kernel
theorem dL_law_762 : decode cL_law 762 = .ok (.invokevirtual 86, 3) := by decide +kernel
theorem dL_law_765 : decode cL_law 765 = .ok (.aload_n 2, 1) := by decide +kernel
theorem dL_law_766 : decode cL_law 766 = .ok (.aload_n 0, 1) := by decide +kernel
theorem dL_law_767 : decode cL_law 767 = .ok (.iload_n 3, 1) := by decide +kernel
theorem dL_law_768 : decode cL_law 768 = .ok (.iconst 1, 1) := by decide +kernel
theorem dL_law_769 : decode cL_law 769 = .ok (.iadd, 1) := by decide +kernel
theorem dL_law_770 : decode cL_law 770 = .ok (.iaload, 1) := by decide +kernel
theorem dL_law_771 : decode cL_law 771 = .ok (.aload_n 0, 1) := by decide +kernel
theorem dL_law_772 : decode cL_law 772 = .ok (.iload_n 3, 1) := by decide +kernel
theorem dL_law_773 : decode cL_law 773 = .ok (.iconst 2, 1) := by decide +kernel
theorem dL_law_774 : decode cL_law 774 = .ok (.iadd, 1) := by decide +kernel
theorem dL_law_775 : decode cL_law 775 = .ok (.iaload, 1) := by decide +kernel
theorem dL_law_776 : decode cL_law 776 = .ok (.aload_n 0, 1) := by decide +kernel
theorem dL_law_777 : decode cL_law 777 = .ok (.iload_n 3, 1) := by decide +kernel
theorem dL_law_778 : decode cL_law 778 = .ok (.iconst 3, 1) := by decide +kernel
theorem dL_law_779 : decode cL_law 779 = .ok (.iadd, 1) := by decide +kernel
theorem dL_law_780 : decode cL_law 780 = .ok (.iaload, 1) := by decide +kernel
theorem dL_law_781 : decode cL_law 781 = .ok (.ifCond .eq 7, 3) := by decide +kernel
theorem dL_law_784 : decode cL_law 784 = .ok (.iconst 1, 1) := by decide +kernel
theorem dL_law_785 : decode cL_law 785 = .ok (.goto 4, 3) := by decide +kernel
theorem dL_law_788 : decode cL_law 788 = .ok (.iconst 0, 1) := by decide +kernel
theorem dL_law_789 : decode cL_law 789 = .ok (.invokevirtual 90, 3) := by decide +kernel
theorem dL_law_792 : decode cL_law 792 = .ok (.if_icmp .eq 298, 3) := by decide +kernel
theorem dL_law_795 : decode cL_law 795 = .ok (.iconst 0, 1) := by decide +kernel
theorem dL_law_796 : decode cL_law 796 = .ok (.ireturn, 1) := by decide +kernel
theorem dL_law_797 : decode cL_law 797 = .ok (.aload_n 1, 1) := by decide +kernel
theorem dL_law_798 : decode cL_law 798 = .ok (.aload_n 0, 1) := by decide +kernel
theorem dL_law_799 : decode cL_law 799 = .ok (.iload_n 3, 1) := by decide +kernel
theorem dL_law_800 : decode cL_law 800 = .ok (.iconst 1, 1) := by decide +kernel
theorem dL_law_801 : decode cL_law 801 = .ok (.iadd, 1) := by decide +kernel
theorem dL_law_802 : decode cL_law 802 = .ok (.iaload, 1) := by decide +kernel
theorem dL_law_803 : decode cL_law 803 = .ok (.aload_n 0, 1) := by decide +kernel
theorem dL_law_804 : decode cL_law 804 = .ok (.iload_n 3, 1) := by decide +kernel
theorem dL_law_805 : decode cL_law 805 = .ok (.iconst 2, 1) := by decide +kernel
theorem dL_law_806 : decode cL_law 806 = .ok (.iadd, 1) := by decide +kernel
theorem dL_law_807 : decode cL_law 807 = .ok (.iaload, 1) := by decide +kernel
theorem dL_law_808 : decode cL_law 808 = .ok (.ifCond .eq 7, 3) := by decide +kernel
theorem dL_law_811 : decode cL_law 811 = .ok (.iconst 1, 1) := by decide +kernel
theorem dL_law_812 : decode cL_law 812 = .ok (.goto 4, 3) := by decide +kernel
theorem dL_law_815 : decode cL_law 815 = .ok (.iconst 0, 1) := by decide +kernel
theorem dL_law_816 : decode cL_law 816 = .ok (.invokevirtual 91, 3) := by decide +kernel
theorem dL_law_819 : decode cL_law 819 = .ok (.aload_n 2, 1) := by decide +kernel
theorem dL_law_820 : decode cL_law 820 = .ok (.aload_n 0, 1) := by decide +kernel
theorem dL_law_821 : decode cL_law 821 = .ok (.iload_n 3, 1) := by decide +kernel
theorem dL_law_822 : decode cL_law 822 = .ok (.iconst 1, 1) := by decide +kernel
theorem dL_law_823 : decode cL_law 823 = .ok (.iadd, 1) := by decide +kernel
theorem dL_law_824 : decode cL_law 824 = .ok (.iaload, 1) := by decide +kernel
theorem dL_law_825 : decode cL_law 825 = .ok (.aload_n 0, 1) := by decide +kernel
theorem dL_law_826 : decode cL_law 826 = .ok (.iload_n 3, 1) := by decide +kernel
theorem dL_law_827 : decode cL_law 827 = .ok (.iconst 2, 1) := by decide +kernel
theorem dL_law_828 : decode cL_law 828 = .ok (.iadd, 1) := by decide +kernel
theorem dL_law_829 : decode cL_law 829 = .ok (.iaload, 1) := by decide +kernel
theorem dL_law_830 : decode cL_law 830 = .ok (.ifCond .eq 7, 3) := by decide +kernel
theorem dL_law_833 : decode cL_law 833 = .ok (.iconst 1, 1) := by decide +kernel
theorem dL_law_834 : decode cL_law 834 = .ok (.goto 4, 3) := by decide +kernel
theorem dL_law_837 : decode cL_law 837 = .ok (.iconst 0, 1) := by decide +kernel
theorem dL_law_838 : decode cL_law 838 = .ok (.invokevirtual 95, 3) := by decide +kernel
theorem dL_law_841 : decode cL_law 841 = .ok (.if_icmp .eq 249, 3) := by decide +kernel
theorem dL_law_844 : decode cL_law 844 = .ok (.iconst 0, 1) := by decide +kernel
theorem dL_law_845 : decode cL_law 845 = .ok (.ireturn, 1) := by decide +kernel
theorem dL_law_846 : decode cL_law 846 = .ok (.aload_n 1, 1) := by decide +kernel
theorem dL_law_847 : decode cL_law 847 = .ok (.invokevirtual 96, 3) := by decide +kernel
theorem dL_law_850 : decode cL_law 850 = .ok (.aload_n 2, 1) := by decide +kernel
theorem dL_law_851 : decode cL_law 851 = .ok (.invokevirtual 99, 3) := by decide +kernel
theorem dL_law_854 : decode cL_law 854 = .ok (.if_icmp .eq 236, 3) := by decide +kernel
theorem dL_law_857 : decode cL_law 857 = .ok (.iconst 0, 1) := by decide +kernel
theorem dL_law_858 : decode cL_law 858 = .ok (.ireturn, 1) := by decide +kernel
theorem dL_law_859 : decode cL_law 859 = .ok (.aload_n 1, 1) := by decide +kernel
theorem dL_law_860 : decode cL_law 860 = .ok (.aload_n 0, 1) := by decide +kernel
theorem dL_law_861 : decode cL_law 861 = .ok (.iload_n 3, 1) := by decide +kernel
theorem dL_law_862 : decode cL_law 862 = .ok (.iconst 1, 1) := by decide +kernel
theorem dL_law_863 : decode cL_law 863 = .ok (.iadd, 1) := by decide +kernel
theorem dL_law_864 : decode cL_law 864 = .ok (.iaload, 1) := by decide +kernel
theorem dL_law_865 : decode cL_law 865 = .ok (.ifCond .eq 7, 3) := by decide +kernel
theorem dL_law_868 : decode cL_law 868 = .ok (.iconst 1, 1) := by decide +kernel
theorem dL_law_869 : decode cL_law 869 = .ok (.goto 4, 3) := by decide +kernel
theorem dL_law_872 : decode cL_law 872 = .ok (.iconst 0, 1) := by decide +kernel
theorem dL_law_873 : decode cL_law 873 = .ok (.invokevirtual 100, 3) := by decide +kernel
theorem dL_law_876 : decode cL_law 876 = .ok (.aload_n 2, 1) := by decide +kernel
theorem dL_law_877 : decode cL_law 877 = .ok (.aload_n 0, 1) := by decide +kernel
theorem dL_law_878 : decode cL_law 878 = .ok (.iload_n 3, 1) := by decide +kernel
theorem dL_law_879 : decode cL_law 879 = .ok (.iconst 1, 1) := by decide +kernel
theorem dL_law_880 : decode cL_law 880 = .ok (.iadd, 1) := by decide +kernel
theorem dL_law_881 : decode cL_law 881 = .ok (.iaload, 1) := by decide +kernel
theorem dL_law_882 : decode cL_law 882 = .ok (.ifCond .eq 7, 3) := by decide +kernel
theorem dL_law_885 : decode cL_law 885 = .ok (.iconst 1, 1) := by decide +kernel
theorem dL_law_886 : decode cL_law 886 = .ok (.goto 4, 3) := by decide +kernel
theorem dL_law_889 : decode cL_law 889 = .ok (.iconst 0, 1) := by decide +kernel
theorem dL_law_890 : decode cL_law 890 = .ok (.invokevirtual 104, 3) := by decide +kernel
theorem dL_law_893 : decode cL_law 893 = .ok (.if_icmp .eq 197, 3) := by decide +kernel
theorem dL_law_896 : decode cL_law 896 = .ok (.iconst 0, 1) := by decide +kernel
theorem dL_law_897 : decode cL_law 897 = .ok (.ireturn, 1) := by decide +kernel
theorem dL_law_898 : decode cL_law 898 = .ok (.aload_n 1, 1) := by decide +kernel
theorem dL_law_899 : decode cL_law 899 = .ok (.aload_n 0, 1) := by decide +kernel
theorem dL_law_900 : decode cL_law 900 = .ok (.iload_n 3, 1) := by decide +kernel
theorem dL_law_901 : decode cL_law 901 = .ok (.iconst 1, 1) := by decide +kernel
theorem dL_law_902 : decode cL_law 902 = .ok (.iadd, 1) := by decide +kernel
theorem dL_law_903 : decode cL_law 903 = .ok (.iaload, 1) := by decide +kernel
theorem dL_law_904 : decode cL_law 904 = .ok (.aload_n 0, 1) := by decide +kernel
theorem dL_law_905 : decode cL_law 905 = .ok (.iload_n 3, 1) := by decide +kernel
theorem dL_law_906 : decode cL_law 906 = .ok (.iconst 2, 1) := by decide +kernel
theorem dL_law_907 : decode cL_law 907 = .ok (.iadd, 1) := by decide +kernel
theorem dL_law_908 : decode cL_law 908 = .ok (.iaload, 1) := by decide +kernel
theorem dL_law_909 : decode cL_law 909 = .ok (.aload_n 0, 1) := by decide +kernel
theorem dL_law_910 : decode cL_law 910 = .ok (.iload_n 3, 1) := by decide +kernel
theorem dL_law_911 : decode cL_law 911 = .ok (.iconst 3, 1) := by decide +kernel
theorem dL_law_912 : decode cL_law 912 = .ok (.iadd, 1) := by decide +kernel
theorem dL_law_913 : decode cL_law 913 = .ok (.iaload, 1) := by decide +kernel
theorem dL_law_914 : decode cL_law 914 = .ok (.aload_n 0, 1) := by decide +kernel
theorem dL_law_915 : decode cL_law 915 = .ok (.iload_n 3, 1) := by decide +kernel
theorem dL_law_916 : decode cL_law 916 = .ok (.iconst 4, 1) := by decide +kernel
theorem dL_law_917 : decode cL_law 917 = .ok (.iadd, 1) := by decide +kernel
theorem dL_law_918 : decode cL_law 918 = .ok (.iaload, 1) := by decide +kernel
theorem dL_law_919 : decode cL_law 919 = .ok (.ifCond .eq 7, 3) := by decide +kernel
theorem dL_law_922 : decode cL_law 922 = .ok (.iconst 1, 1) := by decide +kernel
theorem dL_law_923 : decode cL_law 923 = .ok (.goto 4, 3) := by decide +kernel
theorem dL_law_926 : decode cL_law 926 = .ok (.iconst 0, 1) := by decide +kernel
theorem dL_law_927 : decode cL_law 927 = .ok (.invokevirtual 105, 3) := by decide +kernel
theorem dL_law_930 : decode cL_law 930 = .ok (.aload_n 2, 1) := by decide +kernel
theorem dL_law_931 : decode cL_law 931 = .ok (.aload_n 0, 1) := by decide +kernel
theorem dL_law_932 : decode cL_law 932 = .ok (.iload_n 3, 1) := by decide +kernel
theorem dL_law_933 : decode cL_law 933 = .ok (.iconst 1, 1) := by decide +kernel
theorem dL_law_934 : decode cL_law 934 = .ok (.iadd, 1) := by decide +kernel
theorem dL_law_935 : decode cL_law 935 = .ok (.iaload, 1) := by decide +kernel
theorem dL_law_936 : decode cL_law 936 = .ok (.aload_n 0, 1) := by decide +kernel
theorem dL_law_937 : decode cL_law 937 = .ok (.iload_n 3, 1) := by decide +kernel
theorem dL_law_938 : decode cL_law 938 = .ok (.iconst 2, 1) := by decide +kernel
theorem dL_law_939 : decode cL_law 939 = .ok (.iadd, 1) := by decide +kernel
theorem dL_law_940 : decode cL_law 940 = .ok (.iaload, 1) := by decide +kernel
theorem dL_law_941 : decode cL_law 941 = .ok (.aload_n 0, 1) := by decide +kernel
theorem dL_law_942 : decode cL_law 942 = .ok (.iload_n 3, 1) := by decide +kernel
theorem dL_law_943 : decode cL_law 943 = .ok (.iconst 3, 1) := by decide +kernel
theorem dL_law_944 : decode cL_law 944 = .ok (.iadd, 1) := by decide +kernel
theorem dL_law_945 : decode cL_law 945 = .ok (.iaload, 1) := by decide +kernel
theorem dL_law_946 : decode cL_law 946 = .ok (.aload_n 0, 1) := by decide +kernel
theorem dL_law_947 : decode cL_law 947 = .ok (.iload_n 3, 1) := by decide +kernel
theorem dL_law_948 : decode cL_law 948 = .ok (.iconst 4, 1) := by decide +kernel
theorem dL_law_949 : decode cL_law 949 = .ok (.iadd, 1) := by decide +kernel
theorem dL_law_950 : decode cL_law 950 = .ok (.iaload, 1) := by decide +kernel
theorem dL_law_951 : decode cL_law 951 = .ok (.ifCond .eq 7, 3) := by decide +kernel
theorem dL_law_954 : decode cL_law 954 = .ok (.iconst 1, 1) := by decide +kernel
theorem dL_law_955 : decode cL_law 955 = .ok (.goto 4, 3) := by decide +kernel
theorem dL_law_958 : decode cL_law 958 = .ok (.iconst 0, 1) := by decide +kernel
theorem dL_law_959 : decode cL_law 959 = .ok (.invokevirtual 109, 3) := by decide +kernel
theorem dL_law_962 : decode cL_law 962 = .ok (.if_icmp .eq 128, 3) := by decide +kernel
theorem dL_law_965 : decode cL_law 965 = .ok (.iconst 0, 1) := by decide +kernel
theorem dL_law_966 : decode cL_law 966 = .ok (.ireturn, 1) := by decide +kernel
theorem dL_law_967 : decode cL_law 967 = .ok (.aload_n 1, 1) := by decide +kernel
theorem dL_law_968 : decode cL_law 968 = .ok (.aload_n 0, 1) := by decide +kernel
theorem dL_law_969 : decode cL_law 969 = .ok (.iload_n 3, 1) := by decide +kernel
theorem dL_law_970 : decode cL_law 970 = .ok (.iconst 1, 1) := by decide +kernel
theorem dL_law_971 : decode cL_law 971 = .ok (.iadd, 1) := by decide +kernel
theorem dL_law_972 : decode cL_law 972 = .ok (.iaload, 1) := by decide +kernel
theorem dL_law_973 : decode cL_law 973 = .ok (.i2l, 1) := by decide +kernel
theorem dL_law_974 : decode cL_law 974 = .ok (.bipush 32, 2) := by decide +kernel
theorem dL_law_976 : decode cL_law 976 = .ok (.lshl, 1) := by decide +kernel
theorem dL_law_977 : decode cL_law 977 = .ok (.aload_n 0, 1) := by decide +kernel
theorem dL_law_978 : decode cL_law 978 = .ok (.iload_n 3, 1) := by decide +kernel
theorem dL_law_979 : decode cL_law 979 = .ok (.iconst 2, 1) := by decide +kernel
theorem dL_law_980 : decode cL_law 980 = .ok (.iadd, 1) := by decide +kernel
theorem dL_law_981 : decode cL_law 981 = .ok (.iaload, 1) := by decide +kernel
theorem dL_law_982 : decode cL_law 982 = .ok (.i2l, 1) := by decide +kernel
theorem dL_law_983 : decode cL_law 983 = .ok (.ldc2_w 56, 3) := by decide +kernel
theorem dL_law_986 : decode cL_law 986 = .ok (.land, 1) := by decide +kernel
theorem dL_law_987 : decode cL_law 987 = .ok (.lor, 1) := by decide +kernel
theorem dL_law_988 : decode cL_law 988 = .ok (.invokevirtual 110, 3) := by decide +kernel
theorem dL_law_991 : decode cL_law 991 = .ok (.aload_n 2, 1) := by decide +kernel
theorem dL_law_992 : decode cL_law 992 = .ok (.aload_n 0, 1) := by decide +kernel
theorem dL_law_993 : decode cL_law 993 = .ok (.iload_n 3, 1) := by decide +kernel
theorem dL_law_994 : decode cL_law 994 = .ok (.iconst 1, 1) := by decide +kernel
theorem dL_law_995 : decode cL_law 995 = .ok (.iadd, 1) := by decide +kernel
theorem dL_law_996 : decode cL_law 996 = .ok (.iaload, 1) := by decide +kernel
theorem dL_law_997 : decode cL_law 997 = .ok (.i2l, 1) := by decide +kernel
theorem dL_law_998 : decode cL_law 998 = .ok (.bipush 32, 2) := by decide +kernel
theorem dL_law_1000 : decode cL_law 1000 = .ok (.lshl, 1) := by decide +kernel
theorem dL_law_1001 : decode cL_law 1001 = .ok (.aload_n 0, 1) := by decide +kernel
theorem dL_law_1002 : decode cL_law 1002 = .ok (.iload_n 3, 1) := by decide +kernel
theorem dL_law_1003 : decode cL_law 1003 = .ok (.iconst 2, 1) := by decide +kernel
theorem dL_law_1004 : decode cL_law 1004 = .ok (.iadd, 1) := by decide +kernel
theorem dL_law_1005 : decode cL_law 1005 = .ok (.iaload, 1) := by decide +kernel
theorem dL_law_1006 : decode cL_law 1006 = .ok (.i2l, 1) := by decide +kernel
theorem dL_law_1007 : decode cL_law 1007 = .ok (.ldc2_w 56, 3) := by decide +kernel
theorem dL_law_1010 : decode cL_law 1010 = .ok (.land, 1) := by decide +kernel
theorem dL_law_1011 : decode cL_law 1011 = .ok (.lor, 1) := by decide +kernel
theorem dL_law_1012 : decode cL_law 1012 = .ok (.invokevirtual 114, 3) := by decide +kernel
theorem dL_law_1015 : decode cL_law 1015 = .ok (.lcmp, 1) := by decide +kernel
theorem dL_law_1016 : decode cL_law 1016 = .ok (.ifCond .eq 74, 3) := by decide +kernel
theorem dL_law_1019 : decode cL_law 1019 = .ok (.iconst 0, 1) := by decide +kernel
theorem dL_law_1020 : decode cL_law 1020 = .ok (.ireturn, 1) := by decide +kernel
theorem dL_law_1021 : decode cL_law 1021 = .ok (.aload_n 1, 1) := by decide +kernel
theorem dL_law_1022 : decode cL_law 1022 = .ok (.aload_n 0, 1) := by decide +kernel
theorem dL_law_1023 : decode cL_law 1023 = .ok (.iload_n 3, 1) := by decide +kernel
theorem dL_law_1024 : decode cL_law 1024 = .ok (.iconst 1, 1) := by decide +kernel
theorem dL_law_1025 : decode cL_law 1025 = .ok (.iadd, 1) := by decide +kernel
theorem dL_law_1026 : decode cL_law 1026 = .ok (.iaload, 1) := by decide +kernel
theorem dL_law_1027 : decode cL_law 1027 = .ok (.invokevirtual 115, 3) := by decide +kernel
theorem dL_law_1030 : decode cL_law 1030 = .ok (.aload_n 2, 1) := by decide +kernel
theorem dL_law_1031 : decode cL_law 1031 = .ok (.aload_n 0, 1) := by decide +kernel
theorem dL_law_1032 : decode cL_law 1032 = .ok (.iload_n 3, 1) := by decide +kernel
theorem dL_law_1033 : decode cL_law 1033 = .ok (.iconst 1, 1) := by decide +kernel
theorem dL_law_1034 : decode cL_law 1034 = .ok (.iadd, 1) := by decide +kernel
theorem dL_law_1035 : decode cL_law 1035 = .ok (.iaload, 1) := by decide +kernel
theorem dL_law_1036 : decode cL_law 1036 = .ok (.invokevirtual 118, 3) := by decide +kernel
theorem dL_law_1039 : decode cL_law 1039 = .ok (.if_icmp .eq 51, 3) := by decide +kernel
theorem dL_law_1042 : decode cL_law 1042 = .ok (.iconst 0, 1) := by decide +kernel
theorem dL_law_1043 : decode cL_law 1043 = .ok (.ireturn, 1) := by decide +kernel
theorem dL_law_1044 : decode cL_law 1044 = .ok (.aload_n 1, 1) := by decide +kernel
theorem dL_law_1045 : decode cL_law 1045 = .ok (.aload_n 0, 1) := by decide +kernel
theorem dL_law_1046 : decode cL_law 1046 = .ok (.iload_n 3, 1) := by decide +kernel
theorem dL_law_1047 : decode cL_law 1047 = .ok (.iconst 1, 1) := by decide +kernel
theorem dL_law_1048 : decode cL_law 1048 = .ok (.iadd, 1) := by decide +kernel
theorem dL_law_1049 : decode cL_law 1049 = .ok (.iaload, 1) := by decide +kernel
theorem dL_law_1050 : decode cL_law 1050 = .ok (.invokevirtual 119, 3) := by decide +kernel
theorem dL_law_1053 : decode cL_law 1053 = .ok (.aload_n 2, 1) := by decide +kernel
theorem dL_law_1054 : decode cL_law 1054 = .ok (.aload_n 0, 1) := by decide +kernel
theorem dL_law_1055 : decode cL_law 1055 = .ok (.iload_n 3, 1) := by decide +kernel
theorem dL_law_1056 : decode cL_law 1056 = .ok (.iconst 1, 1) := by decide +kernel
theorem dL_law_1057 : decode cL_law 1057 = .ok (.iadd, 1) := by decide +kernel
theorem dL_law_1058 : decode cL_law 1058 = .ok (.iaload, 1) := by decide +kernel
theorem dL_law_1059 : decode cL_law 1059 = .ok (.invokevirtual 122, 3) := by decide +kernel
theorem dL_law_1062 : decode cL_law 1062 = .ok (.if_icmp .eq 28, 3) := by decide +kernel
theorem dL_law_1065 : decode cL_law 1065 = .ok (.iconst 0, 1) := by decide +kernel
theorem dL_law_1066 : decode cL_law 1066 = .ok (.ireturn, 1) := by decide +kernel
theorem dL_law_1067 : decode cL_law 1067 = .ok (.aload_n 1, 1) := by decide +kernel
theorem dL_law_1068 : decode cL_law 1068 = .ok (.aload_n 0, 1) := by decide +kernel
theorem dL_law_1069 : decode cL_law 1069 = .ok (.iload_n 3, 1) := by decide +kernel
theorem dL_law_1070 : decode cL_law 1070 = .ok (.iconst 1, 1) := by decide +kernel
theorem dL_law_1071 : decode cL_law 1071 = .ok (.iadd, 1) := by decide +kernel
theorem dL_law_1072 : decode cL_law 1072 = .ok (.iaload, 1) := by decide +kernel
theorem dL_law_1073 : decode cL_law 1073 = .ok (.invokevirtual 123, 3) := by decide +kernel
theorem dL_law_1076 : decode cL_law 1076 = .ok (.aload_n 2, 1) := by decide +kernel
theorem dL_law_1077 : decode cL_law 1077 = .ok (.aload_n 0, 1) := by decide +kernel
theorem dL_law_1078 : decode cL_law 1078 = .ok (.iload_n 3, 1) := by decide +kernel
theorem dL_law_1079 : decode cL_law 1079 = .ok (.iconst 1, 1) := by decide +kernel
theorem dL_law_1080 : decode cL_law 1080 = .ok (.iadd, 1) := by decide +kernel
theorem dL_law_1081 : decode cL_law 1081 = .ok (.iaload, 1) := by decide +kernel
theorem dL_law_1082 : decode cL_law 1082 = .ok (.invokevirtual 126, 3) := by decide +kernel
theorem dL_law_1085 : decode cL_law 1085 = .ok (.if_icmp .eq 5, 3) := by decide +kernel
theorem dL_law_1088 : decode cL_law 1088 = .ok (.iconst 0, 1) := by decide +kernel
theorem dL_law_1089 : decode cL_law 1089 = .ok (.ireturn, 1) := by decide +kernel
theorem dL_law_1090 : decode cL_law 1090 = .ok (.iinc 3 6, 3) := by decide +kernel
theorem dL_law_1093 : decode cL_law 1093 = .ok (.goto (-1075), 3) := by decide +kernel
theorem dL_law_1096 : decode cL_law 1096 = .ok (.iconst 1, 1) := by decide +kernel
theorem dL_law_1097 : decode cL_law 1097 = .ok (.ireturn, 1) := by decide +kernel
abbrev vwCl : List vw_C := [(RX1, TX1, 5), (RX2, TX2, 2), (RX3, TX3, 5), (RX4, TX4, 11), (RX5, TX5, 28)]
end
