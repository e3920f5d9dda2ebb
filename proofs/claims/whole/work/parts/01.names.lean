-- ===== PART A: goes FIRST, ahead of the names: the tables' words, and 'selects' of the private methods out of them =====
/-- a private method of a class that the tables say can be made, by its rows of tables_1 -/
def lw_okq (q : MethodName × Nat) : Prop := (q.1.cls ≠ "java/lang/invoke/MethodHandle" ∧ q.1.cls ≠ "java/lang/invoke/VarHandle") ∧ Cond.instantiable q.1.cls q.2 ∈ tables_1 ∧ Cond.privateMethod q.1 ∈ tables_1 ∧ Cond.instanceMethod q.1 ∈ tables_1
theorem lw_p0 : lw_okq (⟨"GorgeRow$Text", "fits", "(I)Z"⟩, 2) := ⟨⟨by decide +kernel, by decide +kernel⟩, List.mem_of_getElem? (i := 19) (by decide +kernel), List.mem_of_getElem? (i := 144) (by decide +kernel), List.mem_of_getElem? (i := 145) (by decide +kernel)⟩
theorem lw_p1 : lw_okq (⟨"GorgeRow$Text", "byteAt", "(I)I"⟩, 2) := ⟨⟨by decide +kernel, by decide +kernel⟩, List.mem_of_getElem? (i := 19) (by decide +kernel), List.mem_of_getElem? (i := 148) (by decide +kernel), List.mem_of_getElem? (i := 149) (by decide +kernel)⟩
theorem lw_p2 : lw_okq (⟨"GorgeRow$Text", "fitsPart", "(I)Z"⟩, 2) := ⟨⟨by decide +kernel, by decide +kernel⟩, List.mem_of_getElem? (i := 19) (by decide +kernel), List.mem_of_getElem? (i := 157) (by decide +kernel), List.mem_of_getElem? (i := 158) (by decide +kernel)⟩
theorem lw_p3 : lw_okq (⟨"GorgeRow", "forgetKept", "()V"⟩, 11) := ⟨⟨by decide +kernel, by decide +kernel⟩, List.mem_of_getElem? (i := 11) (by decide +kernel), List.mem_of_getElem? (i := 201) (by decide +kernel), List.mem_of_getElem? (i := 202) (by decide +kernel)⟩
theorem lw_p4 : lw_okq (⟨"GorgeRow$Walk", "walkerAt", "(I)I"⟩, 5) := ⟨⟨by decide +kernel, by decide +kernel⟩, List.mem_of_getElem? (i := 55) (by decide +kernel), List.mem_of_getElem? (i := 283) (by decide +kernel), List.mem_of_getElem? (i := 284) (by decide +kernel)⟩
theorem lw_p5 : lw_okq (⟨"GorgeRow", "remember", "()V"⟩, 11) := ⟨⟨by decide +kernel, by decide +kernel⟩, List.mem_of_getElem? (i := 11) (by decide +kernel), List.mem_of_getElem? (i := 296) (by decide +kernel), List.mem_of_getElem? (i := 297) (by decide +kernel)⟩
theorem lw_p6 : lw_okq (⟨"GorgeRow$Walk", "isHeard", "(II)Z"⟩, 5) := ⟨⟨by decide +kernel, by decide +kernel⟩, List.mem_of_getElem? (i := 55) (by decide +kernel), List.mem_of_getElem? (i := 312) (by decide +kernel), List.mem_of_getElem? (i := 313) (by decide +kernel)⟩
theorem lw_p7 : lw_okq (⟨"GorgeRow$Walk", "setQuiet", "(II)V"⟩, 5) := ⟨⟨by decide +kernel, by decide +kernel⟩, List.mem_of_getElem? (i := 55) (by decide +kernel), List.mem_of_getElem? (i := 318) (by decide +kernel), List.mem_of_getElem? (i := 319) (by decide +kernel)⟩
theorem lw_p8 : lw_okq (⟨"GorgeRow$Walk", "turnRound", "()I"⟩, 5) := ⟨⟨by decide +kernel, by decide +kernel⟩, List.mem_of_getElem? (i := 55) (by decide +kernel), List.mem_of_getElem? (i := 323) (by decide +kernel), List.mem_of_getElem? (i := 324) (by decide +kernel)⟩
theorem lw_p9 : lw_okq (⟨"GorgeRow", "leftOf", "(IIJ)I"⟩, 11) := ⟨⟨by decide +kernel, by decide +kernel⟩, List.mem_of_getElem? (i := 11) (by decide +kernel), List.mem_of_getElem? (i := 388) (by decide +kernel), List.mem_of_getElem? (i := 389) (by decide +kernel)⟩
theorem lw_p10 : lw_okq (⟨"GorgeRowModel", "readGorge", "()I"⟩, 28) := ⟨⟨by decide +kernel, by decide +kernel⟩, List.mem_of_getElem? (i := 486) (by decide +kernel), List.mem_of_getElem? (i := 594) (by decide +kernel), List.mem_of_getElem? (i := 595) (by decide +kernel)⟩
theorem lw_p11 : lw_okq (⟨"GorgeRowModel", "figure", "(II)I"⟩, 28) := ⟨⟨by decide +kernel, by decide +kernel⟩, List.mem_of_getElem? (i := 486) (by decide +kernel), List.mem_of_getElem? (i := 598) (by decide +kernel), List.mem_of_getElem? (i := 599) (by decide +kernel)⟩
theorem lw_p12 : lw_okq (⟨"GorgeRowModel", "noOne", "(I)Z"⟩, 28) := ⟨⟨by decide +kernel, by decide +kernel⟩, List.mem_of_getElem? (i := 486) (by decide +kernel), List.mem_of_getElem? (i := 620) (by decide +kernel), List.mem_of_getElem? (i := 621) (by decide +kernel)⟩
theorem lw_p13 : lw_okq (⟨"GorgeRowModel", "note", "()V"⟩, 28) := ⟨⟨by decide +kernel, by decide +kernel⟩, List.mem_of_getElem? (i := 486) (by decide +kernel), List.mem_of_getElem? (i := 631) (by decide +kernel), List.mem_of_getElem? (i := 632) (by decide +kernel)⟩
theorem lw_p14 : lw_okq (⟨"GorgeRowModel", "goMinute", "([II)I"⟩, 28) := ⟨⟨by decide +kernel, by decide +kernel⟩, List.mem_of_getElem? (i := 486) (by decide +kernel), List.mem_of_getElem? (i := 635) (by decide +kernel), List.mem_of_getElem? (i := 636) (by decide +kernel)⟩
theorem lw_p15 : lw_okq (⟨"GorgeRowModel", "isHeard", "([III)Z"⟩, 28) := ⟨⟨by decide +kernel, by decide +kernel⟩, List.mem_of_getElem? (i := 486) (by decide +kernel), List.mem_of_getElem? (i := 639) (by decide +kernel), List.mem_of_getElem? (i := 640) (by decide +kernel)⟩
def lw_privs_1 : List (MethodName × Nat) := [(⟨"GorgeRow$Text", "fits", "(I)Z"⟩, 2), (⟨"GorgeRow$Text", "byteAt", "(I)I"⟩, 2), (⟨"GorgeRow$Text", "fitsPart", "(I)Z"⟩, 2), (⟨"GorgeRow", "forgetKept", "()V"⟩, 11), (⟨"GorgeRow$Walk", "walkerAt", "(I)I"⟩, 5), (⟨"GorgeRow", "remember", "()V"⟩, 11), (⟨"GorgeRow$Walk", "isHeard", "(II)Z"⟩, 5), (⟨"GorgeRow$Walk", "setQuiet", "(II)V"⟩, 5), (⟨"GorgeRow$Walk", "turnRound", "()I"⟩, 5), (⟨"GorgeRow", "leftOf", "(IIJ)I"⟩, 11), (⟨"GorgeRowModel", "readGorge", "()I"⟩, 28), (⟨"GorgeRowModel", "figure", "(II)I"⟩, 28), (⟨"GorgeRowModel", "noOne", "(I)Z"⟩, 28), (⟨"GorgeRowModel", "note", "()V"⟩, 28), (⟨"GorgeRowModel", "goMinute", "([II)I"⟩, 28), (⟨"GorgeRowModel", "isHeard", "([III)Z"⟩, 28)]
theorem lw_r1 : ∀ q ∈ lw_privs_1, lw_okq q := List.forall_mem_cons.mpr ⟨lw_p0, List.forall_mem_cons.mpr ⟨lw_p1, List.forall_mem_cons.mpr ⟨lw_p2, List.forall_mem_cons.mpr ⟨lw_p3, List.forall_mem_cons.mpr ⟨lw_p4, List.forall_mem_cons.mpr ⟨lw_p5, List.forall_mem_cons.mpr ⟨lw_p6, List.forall_mem_cons.mpr ⟨lw_p7, List.forall_mem_cons.mpr ⟨lw_p8, List.forall_mem_cons.mpr ⟨lw_p9, List.forall_mem_cons.mpr ⟨lw_p10, List.forall_mem_cons.mpr ⟨lw_p11, List.forall_mem_cons.mpr ⟨lw_p12, List.forall_mem_cons.mpr ⟨lw_p13, List.forall_mem_cons.mpr ⟨lw_p14, List.forall_mem_cons.mpr ⟨lw_p15, fun _ h => absurd h List.not_mem_nil⟩⟩⟩⟩⟩⟩⟩⟩⟩⟩⟩⟩⟩⟩⟩⟩
theorem lw_p16 : lw_okq (⟨"GorgeRowModel", "begin", "()V"⟩, 28) := ⟨⟨by decide +kernel, by decide +kernel⟩, List.mem_of_getElem? (i := 486) (by decide +kernel), List.mem_of_getElem? (i := 674) (by decide +kernel), List.mem_of_getElem? (i := 675) (by decide +kernel)⟩
theorem lw_p17 : lw_okq (⟨"GorgeRowModel", "sing", "(IJ)I"⟩, 28) := ⟨⟨by decide +kernel, by decide +kernel⟩, List.mem_of_getElem? (i := 486) (by decide +kernel), List.mem_of_getElem? (i := 678) (by decide +kernel), List.mem_of_getElem? (i := 679) (by decide +kernel)⟩
theorem lw_p18 : lw_okq (⟨"GorgeRowModel", "findOrder", "(IJ)V"⟩, 28) := ⟨⟨by decide +kernel, by decide +kernel⟩, List.mem_of_getElem? (i := 486) (by decide +kernel), List.mem_of_getElem? (i := 690) (by decide +kernel), List.mem_of_getElem? (i := 691) (by decide +kernel)⟩
theorem lw_p19 : lw_okq (⟨"GorgeRowModel", "hush", "()V"⟩, 28) := ⟨⟨by decide +kernel, by decide +kernel⟩, List.mem_of_getElem? (i := 486) (by decide +kernel), List.mem_of_getElem? (i := 694) (by decide +kernel), List.mem_of_getElem? (i := 695) (by decide +kernel)⟩
theorem lw_p20 : lw_okq (⟨"GorgeRowModel", "worthOf", "(IIJ)I"⟩, 28) := ⟨⟨by decide +kernel, by decide +kernel⟩, List.mem_of_getElem? (i := 486) (by decide +kernel), List.mem_of_getElem? (i := 702) (by decide +kernel), List.mem_of_getElem? (i := 703) (by decide +kernel)⟩
def lw_privs_2 : List (MethodName × Nat) := [(⟨"GorgeRowModel", "begin", "()V"⟩, 28), (⟨"GorgeRowModel", "sing", "(IJ)I"⟩, 28), (⟨"GorgeRowModel", "findOrder", "(IJ)V"⟩, 28), (⟨"GorgeRowModel", "hush", "()V"⟩, 28), (⟨"GorgeRowModel", "worthOf", "(IIJ)I"⟩, 28)]
theorem lw_r2 : ∀ q ∈ lw_privs_2, lw_okq q := List.forall_mem_cons.mpr ⟨lw_p16, List.forall_mem_cons.mpr ⟨lw_p17, List.forall_mem_cons.mpr ⟨lw_p18, List.forall_mem_cons.mpr ⟨lw_p19, List.forall_mem_cons.mpr ⟨lw_p20, fun _ h => absurd h List.not_mem_nil⟩⟩⟩⟩⟩
def lw_privs : List (MethodName × Nat) := lw_privs_1 ++ (lw_privs_2)
def lw_tbl : List Cond := k2_sels lw_privs ++ tables_1
theorem lw_privs_ok : ∀ q ∈ lw_privs, lw_okq q := by
  show ∀ q ∈ lw_privs_1 ++ (lw_privs_2), lw_okq q
  exact List.forall_mem_append.mpr ⟨lw_r1, lw_r2⟩
/-! ===== BEGIN words of one list among another's, by their places ===== -/
theorem goodIn_r {big : List Cond} (ws : List Cond) (ps : List Nat) (hp : ws = ps.filterMap (fun i => big[i]?)) (h : ws.all goodWord = true) : GoodIn big ws := by
  intro w hw
  have h1 := List.all_eq_true.mp h w hw
  rw [hp] at hw
  obtain ⟨i, -, hi⟩ := List.mem_filterMap.mp hw
  have hm : w ∈ big := by first | exact List.mem_of_getElem? hi | exact List.getElem?_mem hi
  exact ⟨hm, good_of_word h1⟩
theorem goodIn_app {big a b : List Cond} (ha : GoodIn big a) (hb : GoodIn big b) : GoodIn big (a ++ b) := fun w h => (List.mem_append.mp h).elim (ha w) (hb w)
theorem goodIn_ca {big a b : List Cond} {c : Cond} (ha : GoodIn big (c :: a)) (hb : GoodIn big b) : GoodIn big (c :: (a ++ b)) := fun w h => (List.mem_cons.mp h).elim (fun e => ha w (List.mem_cons.mpr (Or.inl e))) (fun h => (List.mem_append.mp h).elim (fun h => ha w (List.mem_cons.mpr (Or.inr h))) (hb w))
theorem goodIn_sub {big ws : List Cond} (hm : ∀ w ∈ ws, w ∈ big) (h : ws.all goodWord = true) : GoodIn big ws := fun w hw => ⟨hm w hw, good_of_word (List.all_eq_true.mp h w hw)⟩
/-! ===== END ===== -/

/-! ===== BEGIN printed: names, fields, word lists, decode rows ===== -/
def RX0 : String := "GorgeRow$Cells"
def TX0 : u_T := fun k => match k with
  | _ => ("", "", "", false)
def tyX0 : Nat → FieldType := fun k => match k with
  | _ => .int
abbrev wsX00 : List Cond := u_ws RX0 TX0 0
theorem nmX0 : ∀ a, a < 0 → ∀ b, b < 0 → a ≠ b → (TX0 a).2.1 ≠ (TX0 b).2.1 := by decide +kernel
theorem tyX0_ok : ∀ k, k < 0 → parseFieldDescriptor (TX0 k).2.2.1 = some (tyX0 k) := by decide +kernel
abbrev cX0_at : ByteArray := prog_2_method_2_code
def yX0_at : MethodName := ⟨RX0, "at", "(II)I"⟩
abbrev cX0_with : ByteArray := prog_2_method_3_code
def yX0_with : MethodName := ⟨RX0, "with", "(III)I"⟩
abbrev cX0_swapped : ByteArray := prog_2_method_4_code
def yX0_swapped : MethodName := ⟨RX0, "swapped", "(III)I"⟩
abbrev cX0_without : ByteArray := prog_2_method_5_code
def yX0_without : MethodName := ⟨RX0, "without", "(II)I"⟩
abbrev cX0_size : ByteArray := prog_2_method_6_code
def yX0_size : MethodName := ⟨RX0, "size", "(I)I"⟩
abbrev cX0_members : ByteArray := prog_2_method_7_code
def yX0_members : MethodName := ⟨RX0, "members", "(I)I"⟩
abbrev cX0_figures : ByteArray := prog_2_method_8_code
def yX0_figures : MethodName := ⟨RX0, "figures", "(I)I"⟩
abbrev cX0_only : ByteArray := prog_2_method_9_code
def yX0_only : MethodName := ⟨RX0, "only", "(II)I"⟩
abbrev cX0_ascending : ByteArray := prog_2_method_10_code
def yX0_ascending : MethodName := ⟨RX0, "ascending", "(I)I"⟩
abbrev cX0_nextOrder : ByteArray := prog_2_method_11_code
def yX0_nextOrder : MethodName := ⟨RX0, "nextOrder", "(I)I"⟩
def RX1 : String := "GorgeRow$Path"
def TX1 : u_T := fun k => match k with
  | 0 => ("GorgeRow$Path", "walkers", "I", false)
  | 1 => ("GorgeRow$Path", "light", "I", false)
  | 2 => ("GorgeRow$Path", "water", "I", false)
  | 3 => ("GorgeRow$Path", "nerves", "I", false)
  | _ => ("GorgeRow$Path", "kinds", "I", false)
def tyX1 : Nat → FieldType := fun k => match k with
  | 0 => .int
  | 1 => .int
  | 2 => .int
  | 3 => .int
  | _ => .int
abbrev wsX10 : List Cond := u_ws RX1 TX1 5
theorem nmX1 : ∀ a, a < 5 → ∀ b, b < 5 → a ≠ b → (TX1 a).2.1 ≠ (TX1 b).2.1 := by decide +kernel
theorem tyX1_ok : ∀ k, k < 5 → parseFieldDescriptor (TX1 k).2.2.1 = some (tyX1 k) := by decide +kernel
abbrev cX1_init : ByteArray := prog_3_method_1_code
def yX1_init : MethodName := ⟨RX1, "<init>", "()V"⟩
abbrev cX1_read : ByteArray := prog_3_method_2_code
def yX1_read : MethodName := ⟨RX1, "read", "(LGorgeRow$Text;)V"⟩
abbrev cX1_walkers : ByteArray := prog_3_method_3_code
def yX1_walkers : MethodName := ⟨RX1, "walkers", "()I"⟩
abbrev cX1_light : ByteArray := prog_3_method_4_code
def yX1_light : MethodName := ⟨RX1, "light", "()I"⟩
abbrev cX1_water : ByteArray := prog_3_method_5_code
def yX1_water : MethodName := ⟨RX1, "water", "()I"⟩
abbrev cX1_has : ByteArray := prog_3_method_6_code
def yX1_has : MethodName := ⟨RX1, "has", "(I)Z"⟩
abbrev cX1_everybody : ByteArray := prog_3_method_7_code
def yX1_everybody : MethodName := ⟨RX1, "everybody", "()I"⟩
abbrev cX1_nerve : ByteArray := prog_3_method_8_code
def yX1_nerve : MethodName := ⟨RX1, "nerve", "(I)I"⟩
abbrev cX1_kind : ByteArray := prog_3_method_9_code
def yX1_kind : MethodName := ⟨RX1, "kind", "(I)I"⟩
def RX2 : String := "GorgeRow$Text"
def TX2 : u_T := fun k => match k with
  | 0 => ("GorgeRow$Text", "bytes", "[I", true)
  | _ => ("GorgeRow$Text", "length", "I", false)
def tyX2 : Nat → FieldType := fun k => match k with
  | 0 => .array .int
  | _ => .int
abbrev wsX20 : List Cond := u_ws RX2 TX2 2
theorem nmX2 : ∀ a, a < 2 → ∀ b, b < 2 → a ≠ b → (TX2 a).2.1 ≠ (TX2 b).2.1 := by decide +kernel
theorem tyX2_ok : ∀ k, k < 2 → parseFieldDescriptor (TX2 k).2.2.1 = some (tyX2 k) := by decide +kernel
abbrev cX2_init : ByteArray := prog_4_method_1_code
def yX2_init : MethodName := ⟨RX2, "<init>", "()V"⟩
abbrev cX2_length : ByteArray := prog_4_method_2_code
def yX2_length : MethodName := ⟨RX2, "length", "()I"⟩
abbrev cX2_append : ByteArray := prog_4_method_3_code
def yX2_append : MethodName := ⟨RX2, "append", "(I)Z"⟩
abbrev cX2_clear : ByteArray := prog_4_method_4_code
def yX2_clear : MethodName := ⟨RX2, "clear", "()V"⟩
abbrev cX2_parts : ByteArray := prog_4_method_5_code
def yX2_parts : MethodName := ⟨RX2, "parts", "()I"⟩
abbrev cX2_figure : ByteArray := prog_4_method_6_code
def yX2_figure : MethodName := ⟨RX2, "figure", "(I)I"⟩
abbrev cX2_nerve : ByteArray := prog_4_method_7_code
def yX2_nerve : MethodName := ⟨RX2, "nerve", "(I)I"⟩
abbrev cX2_kind : ByteArray := prog_4_method_8_code
def yX2_kind : MethodName := ⟨RX2, "kind", "(I)I"⟩
abbrev cX2_firstFault : ByteArray := prog_4_method_9_code
def yX2_firstFault : MethodName := ⟨RX2, "firstFault", "()I"⟩
abbrev cX2_fits : ByteArray := prog_4_method_10_code
def yX2_fits : MethodName := ⟨RX2, "fits", "(I)Z"⟩
abbrev cX2_fitsPart : ByteArray := prog_4_method_11_code
def yX2_fitsPart : MethodName := ⟨RX2, "fitsPart", "(I)Z"⟩
abbrev cX2_byteAt : ByteArray := prog_4_method_12_code
def yX2_byteAt : MethodName := ⟨RX2, "byteAt", "(I)I"⟩
def RX3 : String := "GorgeRow$Walk"
def TX3 : u_T := fun k => match k with
  | 0 => ("GorgeRow$Walk", "path", "LGorgeRow$Path;", true)
  | 1 => ("GorgeRow$Walk", "row", "I", false)
  | 2 => ("GorgeRow$Walk", "quiets", "I", false)
  | 3 => ("GorgeRow$Walk", "place", "I", false)
  | _ => ("GorgeRow$Walk", "turned", "I", false)
def tyX3 : Nat → FieldType := fun k => match k with
  | 0 => .object "GorgeRow$Path"
  | 1 => .int
  | 2 => .int
  | 3 => .int
  | _ => .int
abbrev wsX30 : List Cond := u_ws RX3 TX3 5
theorem nmX3 : ∀ a, a < 5 → ∀ b, b < 5 → a ≠ b → (TX3 a).2.1 ≠ (TX3 b).2.1 := by decide +kernel
theorem tyX3_ok : ∀ k, k < 5 → parseFieldDescriptor (TX3 k).2.2.1 = some (tyX3 k) := by decide +kernel
abbrev cX3_init : ByteArray := prog_5_method_1_code
def yX3_init : MethodName := ⟨RX3, "<init>", "(LGorgeRow$Path;)V"⟩
abbrev cX3_row : ByteArray := prog_5_method_2_code
def yX3_row : MethodName := ⟨RX3, "row", "()I"⟩
abbrev cX3_place : ByteArray := prog_5_method_3_code
def yX3_place : MethodName := ⟨RX3, "place", "()I"⟩
abbrev cX3_size : ByteArray := prog_5_method_4_code
def yX3_size : MethodName := ⟨RX3, "size", "()I"⟩
abbrev cX3_members : ByteArray := prog_5_method_5_code
def yX3_members : MethodName := ⟨RX3, "members", "()I"⟩
abbrev cX3_isOut : ByteArray := prog_5_method_6_code
def yX3_isOut : MethodName := ⟨RX3, "isOut", "()Z"⟩
abbrev cX3_quiet : ByteArray := prog_5_method_7_code
def yX3_quiet : MethodName := ⟨RX3, "quiet", "(I)I"⟩
abbrev cX3_turned : ByteArray := prog_5_method_8_code
def yX3_turned : MethodName := ⟨RX3, "turned", "()I"⟩
abbrev cX3_indexOf : ByteArray := prog_5_method_9_code
def yX3_indexOf : MethodName := ⟨RX3, "indexOf", "(I)I"⟩
abbrev cX3_behind : ByteArray := prog_5_method_10_code
def yX3_behind : MethodName := ⟨RX3, "behind", "(I)I"⟩
abbrev cX3_start : ByteArray := prog_5_method_11_code
def yX3_start : MethodName := ⟨RX3, "start", "()V"⟩
abbrev cX3_lineUp : ByteArray := prog_5_method_12_code
def yX3_lineUp : MethodName := ⟨RX3, "lineUp", "(II)V"⟩
abbrev cX3_state : ByteArray := prog_5_method_13_code
def yX3_state : MethodName := ⟨RX3, "state", "()J"⟩
abbrev cX3_become : ByteArray := prog_5_method_14_code
def yX3_become : MethodName := ⟨RX3, "become", "(J)V"⟩
abbrev cX3_changePlaces : ByteArray := prog_5_method_15_code
def yX3_changePlaces : MethodName := ⟨RX3, "changePlaces", "(I)V"⟩
abbrev cX3_calm : ByteArray := prog_5_method_16_code
def yX3_calm : MethodName := ⟨RX3, "calm", "()I"⟩
abbrev cX3_sing : ByteArray := prog_5_method_17_code
def yX3_sing : MethodName := ⟨RX3, "sing", "(IJ)I"⟩
abbrev cX3_step : ByteArray := prog_5_method_18_code
def yX3_step : MethodName := ⟨RX3, "step", "(I)I"⟩
abbrev cX3_isHeard : ByteArray := prog_5_method_19_code
def yX3_isHeard : MethodName := ⟨RX3, "isHeard", "(II)Z"⟩
abbrev cX3_turnRound : ByteArray := prog_5_method_20_code
def yX3_turnRound : MethodName := ⟨RX3, "turnRound", "()I"⟩
abbrev cX3_walkerAt : ByteArray := prog_5_method_21_code
def yX3_walkerAt : MethodName := ⟨RX3, "walkerAt", "(I)I"⟩
abbrev cX3_setQuiet : ByteArray := prog_5_method_22_code
def yX3_setQuiet : MethodName := ⟨RX3, "setQuiet", "(II)V"⟩
abbrev cX3_treadsOf : ByteArray := prog_5_method_23_code
def yX3_treadsOf : MethodName := ⟨RX3, "treadsOf", "(JI)I"⟩
def RX4 : String := "GorgeRow"
def TX4 : u_T := fun k => match k with
  | 0 => ("GorgeRow", "text", "LGorgeRow$Text;", true)
  | 1 => ("GorgeRow", "path", "LGorgeRow$Path;", true)
  | 2 => ("GorgeRow", "now", "LGorgeRow$Walk;", true)
  | 3 => ("GorgeRow", "trial", "LGorgeRow$Walk;", true)
  | 4 => ("GorgeRow", "acts", "[J", true)
  | 5 => ("GorgeRow", "actCount", "I", false)
  | 6 => ("GorgeRow", "kept", "[J", true)
  | 7 => ("GorgeRow", "heardMinutes", "I", false)
  | 8 => ("GorgeRow", "silentMinutes", "I", false)
  | 9 => ("GorgeRow", "toldCount", "I", false)
  | _ => ("GorgeRow", "seedNow", "J", false)
def tyX4 : Nat → FieldType := fun k => match k with
  | 0 => .object "GorgeRow$Text"
  | 1 => .object "GorgeRow$Path"
  | 2 => .object "GorgeRow$Walk"
  | 3 => .object "GorgeRow$Walk"
  | 4 => .array .long
  | 5 => .int
  | 6 => .array .long
  | 7 => .int
  | 8 => .int
  | 9 => .int
  | _ => .long
abbrev wsX40 : List Cond := u_ws RX4 TX4 11
theorem nmX4 : ∀ a, a < 11 → ∀ b, b < 11 → a ≠ b → (TX4 a).2.1 ≠ (TX4 b).2.1 := by decide +kernel
theorem tyX4_ok : ∀ k, k < 11 → parseFieldDescriptor (TX4 k).2.2.1 = some (tyX4 k) := by decide +kernel
abbrev cX4_init : ByteArray := prog_1_method_1_code
def yX4_init : MethodName := ⟨RX4, "<init>", "()V"⟩
abbrev cX4_write : ByteArray := prog_1_method_2_code
def yX4_write : MethodName := ⟨RX4, "write", "(I)I"⟩
abbrev cX4_wipe : ByteArray := prog_1_method_3_code
def yX4_wipe : MethodName := ⟨RX4, "wipe", "()I"⟩
abbrev cX4_fault : ByteArray := prog_1_method_4_code
def yX4_fault : MethodName := ⟨RX4, "fault", "()I"⟩
abbrev cX4_gorge : ByteArray := prog_1_method_5_code
def yX4_gorge : MethodName := ⟨RX4, "gorge", "()I"⟩
abbrev cX4_about : ByteArray := prog_1_method_6_code
def yX4_about : MethodName := ⟨RX4, "about", "(I)I"⟩
abbrev cX4_walker : ByteArray := prog_1_method_7_code
def yX4_walker : MethodName := ⟨RX4, "walker", "(II)I"⟩
abbrev cX4_minute : ByteArray := prog_1_method_8_code
def yX4_minute : MethodName := ⟨RX4, "minute", "(I)I"⟩
abbrev cX4_change : ByteArray := prog_1_method_9_code
def yX4_change : MethodName := ⟨RX4, "change", "(I)I"⟩
abbrev cX4_rest : ByteArray := prog_1_method_10_code
def yX4_rest : MethodName := ⟨RX4, "rest", "()I"⟩
abbrev cX4_undo : ByteArray := prog_1_method_11_code
def yX4_undo : MethodName := ⟨RX4, "undo", "()I"⟩
abbrev cX4_remember : ByteArray := prog_1_method_12_code
def yX4_remember : MethodName := ⟨RX4, "remember", "()V"⟩
abbrev cX4_left : ByteArray := prog_1_method_13_code
def yX4_left : MethodName := ⟨RX4, "left", "(IJ)I"⟩
abbrev cX4_firstTurn : ByteArray := prog_1_method_14_code
def yX4_firstTurn : MethodName := ⟨RX4, "firstTurn", "(IJ)I"⟩
abbrev cX4_order : ByteArray := prog_1_method_15_code
def yX4_order : MethodName := ⟨RX4, "order", "(IJI)I"⟩
abbrev cX4_share : ByteArray := prog_1_method_16_code
def yX4_share : MethodName := ⟨RX4, "share", "(IIJZ)I"⟩
abbrev cX4_bears : ByteArray := prog_1_method_17_code
def yX4_bears : MethodName := ⟨RX4, "bears", "(I)I"⟩
abbrev cX4_leftOf : ByteArray := prog_1_method_18_code
def yX4_leftOf : MethodName := ⟨RX4, "leftOf", "(IIJ)I"⟩
abbrev cX4_isSong : ByteArray := prog_1_method_19_code
def yX4_isSong : MethodName := ⟨RX4, "isSong", "(IJ)Z"⟩
abbrev cX4_still : ByteArray := prog_1_method_20_code
def yX4_still : MethodName := ⟨RX4, "still", "(IIIIZ)I"⟩
abbrev cX4_pebbles : ByteArray := prog_1_method_21_code
def yX4_pebbles : MethodName := ⟨RX4, "pebbles", "(IIZ)I"⟩
abbrev cX4_tell : ByteArray := prog_1_method_22_code
def yX4_tell : MethodName := ⟨RX4, "tell", "(IZ)I"⟩
abbrev cX4_untell : ByteArray := prog_1_method_23_code
def yX4_untell : MethodName := ⟨RX4, "untell", "()I"⟩
abbrev cX4_letGo : ByteArray := prog_1_method_24_code
def yX4_letGo : MethodName := ⟨RX4, "letGo", "(Z)I"⟩
abbrev cX4_link : ByteArray := prog_1_method_25_code
def yX4_link : MethodName := ⟨RX4, "link", "(IIIZ)I"⟩
abbrev cX4_seed : ByteArray := prog_1_method_26_code
def yX4_seed : MethodName := ⟨RX4, "seed", "(J)J"⟩
abbrev cX4_gorges : ByteArray := prog_1_method_27_code
def yX4_gorges : MethodName := ⟨RX4, "gorges", "(I)I"⟩
abbrev cX4_longestSilence : ByteArray := prog_1_method_28_code
def yX4_longestSilence : MethodName := ⟨RX4, "longestSilence", "(II)I"⟩
abbrev cX4_keep : ByteArray := prog_1_method_29_code
def yX4_keep : MethodName := ⟨RX4, "keep", "(I)I"⟩
abbrev cX4_again : ByteArray := prog_1_method_30_code
def yX4_again : MethodName := ⟨RX4, "again", "(I)I"⟩
abbrev cX4_forgetKept : ByteArray := prog_1_method_31_code
def yX4_forgetKept : MethodName := ⟨RX4, "forgetKept", "()V"⟩
abbrev cX4_within : ByteArray := prog_1_method_32_code
def yX4_within : MethodName := ⟨RX4, "within", "(III)Z"⟩
abbrev cX4_isTenths : ByteArray := prog_1_method_33_code
def yX4_isTenths : MethodName := ⟨RX4, "isTenths", "(I)Z"⟩
abbrev cX4_factorial : ByteArray := prog_1_method_34_code
def yX4_factorial : MethodName := ⟨RX4, "factorial", "(I)I"⟩
abbrev cX4_power : ByteArray := prog_1_method_35_code
def yX4_power : MethodName := ⟨RX4, "power", "(II)J"⟩
abbrev cX4_fraction : ByteArray := prog_1_method_36_code
def yX4_fraction : MethodName := ⟨RX4, "fraction", "(JJZ)I"⟩
abbrev cX4_commonDivisor : ByteArray := prog_1_method_37_code
def yX4_commonDivisor : MethodName := ⟨RX4, "commonDivisor", "(JJ)J"⟩
def RX5 : String := "GorgeRowModel"
def TX5 : u_T := fun k => match k with
  | 0 => ("GorgeRowModel", "thrown", "I", false)
  | 1 => ("GorgeRowModel", "text", "[I", true)
  | 2 => ("GorgeRowModel", "textSize", "I", false)
  | 3 => ("GorgeRowModel", "place", "I", false)
  | 4 => ("GorgeRowModel", "walkers", "I", false)
  | 5 => ("GorgeRowModel", "light", "I", false)
  | 6 => ("GorgeRowModel", "water", "I", false)
  | 7 => ("GorgeRowModel", "nerve", "[I", true)
  | 8 => ("GorgeRowModel", "kind", "[I", true)
  | 9 => ("GorgeRowModel", "readWalkers", "I", false)
  | 10 => ("GorgeRowModel", "readLight", "I", false)
  | 11 => ("GorgeRowModel", "readWater", "I", false)
  | 12 => ("GorgeRowModel", "readNerve", "[I", true)
  | 13 => ("GorgeRowModel", "readKind", "[I", true)
  | 14 => ("GorgeRowModel", "page", "[I", true)
  | 15 => ("GorgeRowModel", "trial", "[I", true)
  | 16 => ("GorgeRowModel", "book", "[I", true)
  | 17 => ("GorgeRowModel", "acts", "I", false)
  | 18 => ("GorgeRowModel", "kept", "[I", true)
  | 19 => ("GorgeRowModel", "isKept", "[Z", true)
  | 20 => ("GorgeRowModel", "told", "I", false)
  | 21 => ("GorgeRowModel", "toldMinute", "[I", true)
  | 22 => ("GorgeRowModel", "toldHeard", "[Z", true)
  | 23 => ("GorgeRowModel", "seed", "J", false)
  | 24 => ("GorgeRowModel", "orderBest", "I", false)
  | 25 => ("GorgeRowModel", "orderMany", "I", false)
  | 26 => ("GorgeRowModel", "worth", "[I", true)
  | _ => ("GorgeRowModel", "turned", "I", false)
def tyX5 : Nat → FieldType := fun k => match k with
  | 0 => .int
  | 1 => .array .int
  | 2 => .int
  | 3 => .int
  | 4 => .int
  | 5 => .int
  | 6 => .int
  | 7 => .array .int
  | 8 => .array .int
  | 9 => .int
  | 10 => .int
  | 11 => .int
  | 12 => .array .int
  | 13 => .array .int
  | 14 => .array .int
  | 15 => .array .int
  | 16 => .array .int
  | 17 => .int
  | 18 => .array .int
  | 19 => .array .boolean
  | 20 => .int
  | 21 => .array .int
  | 22 => .array .boolean
  | 23 => .long
  | 24 => .int
  | 25 => .int
  | 26 => .array .int
  | _ => .int
abbrev wsX50 : List Cond := u_ws RX5 TX5 28
theorem nmX5 : ∀ a, a < 28 → ∀ b, b < 28 → a ≠ b → (TX5 a).2.1 ≠ (TX5 b).2.1 := by decide +kernel
theorem tyX5_ok : ∀ k, k < 28 → parseFieldDescriptor (TX5 k).2.2.1 = some (tyX5 k) := by decide +kernel
abbrev cX5_init : ByteArray := prog_7_method_1_code
def yX5_init : MethodName := ⟨RX5, "<init>", "()V"⟩
abbrev cX5_in : ByteArray := prog_7_method_3_code
def yX5_in : MethodName := ⟨RX5, "in", "(JJJ)Z"⟩
abbrev cX5_has : ByteArray := prog_7_method_4_code
def yX5_has : MethodName := ⟨RX5, "has", "(II)Z"⟩
abbrev cX5_many : ByteArray := prog_7_method_5_code
def yX5_many : MethodName := ⟨RX5, "many", "(I)I"⟩
abbrev cX5_noOne : ByteArray := prog_7_method_6_code
def yX5_noOne : MethodName := ⟨RX5, "noOne", "(I)Z"⟩
abbrev cX5_write : ByteArray := prog_7_method_7_code
def yX5_write : MethodName := ⟨RX5, "write", "(I)I"⟩
abbrev cX5_wipe : ByteArray := prog_7_method_8_code
def yX5_wipe : MethodName := ⟨RX5, "wipe", "()I"⟩
abbrev cX5_figure : ByteArray := prog_7_method_9_code
def yX5_figure : MethodName := ⟨RX5, "figure", "(II)I"⟩
abbrev cX5_readGorge : ByteArray := prog_7_method_10_code
def yX5_readGorge : MethodName := ⟨RX5, "readGorge", "()I"⟩
abbrev cX5_fault : ByteArray := prog_7_method_11_code
def yX5_fault : MethodName := ⟨RX5, "fault", "()I"⟩
abbrev cX5_gorge : ByteArray := prog_7_method_12_code
def yX5_gorge : MethodName := ⟨RX5, "gorge", "()I"⟩
abbrev cX5_rowOf : ByteArray := prog_7_method_13_code
def yX5_rowOf : MethodName := ⟨RX5, "rowOf", "([I)I"⟩
abbrev cX5_figuresOf : ByteArray := prog_7_method_14_code
def yX5_figuresOf : MethodName := ⟨RX5, "figuresOf", "([I)I"⟩
abbrev cX5_about : ByteArray := prog_7_method_15_code
def yX5_about : MethodName := ⟨RX5, "about", "(I)I"⟩
abbrev cX5_placeOf : ByteArray := prog_7_method_16_code
def yX5_placeOf : MethodName := ⟨RX5, "placeOf", "([II)I"⟩
abbrev cX5_walker : ByteArray := prog_7_method_17_code
def yX5_walker : MethodName := ⟨RX5, "walker", "(II)I"⟩
abbrev cX5_isHeard : ByteArray := prog_7_method_18_code
def yX5_isHeard : MethodName := ⟨RX5, "isHeard", "([III)Z"⟩
abbrev cX5_goMinute : ByteArray := prog_7_method_19_code
def yX5_goMinute : MethodName := ⟨RX5, "goMinute", "([II)I"⟩
abbrev cX5_note : ByteArray := prog_7_method_20_code
def yX5_note : MethodName := ⟨RX5, "note", "()V"⟩
abbrev cX5_minute : ByteArray := prog_7_method_21_code
def yX5_minute : MethodName := ⟨RX5, "minute", "(I)I"⟩
abbrev cX5_change : ByteArray := prog_7_method_22_code
def yX5_change : MethodName := ⟨RX5, "change", "(I)I"⟩
abbrev cX5_rest : ByteArray := prog_7_method_23_code
def yX5_rest : MethodName := ⟨RX5, "rest", "()I"⟩
abbrev cX5_undo : ByteArray := prog_7_method_24_code
def yX5_undo : MethodName := ⟨RX5, "undo", "()I"⟩
abbrev cX5_hundred : ByteArray := prog_7_method_25_code
def yX5_hundred : MethodName := ⟨RX5, "hundred", "(I)J"⟩
abbrev cX5_treadsOf : ByteArray := prog_7_method_26_code
def yX5_treadsOf : MethodName := ⟨RX5, "treadsOf", "(IJI)I"⟩
abbrev cX5_noSong : ByteArray := prog_7_method_27_code
def yX5_noSong : MethodName := ⟨RX5, "noSong", "(IJ)Z"⟩
abbrev cX5_begin : ByteArray := prog_7_method_28_code
def yX5_begin : MethodName := ⟨RX5, "begin", "()V"⟩
abbrev cX5_sing : ByteArray := prog_7_method_29_code
def yX5_sing : MethodName := ⟨RX5, "sing", "(IJ)I"⟩
abbrev cX5_left : ByteArray := prog_7_method_30_code
def yX5_left : MethodName := ⟨RX5, "left", "(IJ)I"⟩
abbrev cX5_firstTurn : ByteArray := prog_7_method_31_code
def yX5_firstTurn : MethodName := ⟨RX5, "firstTurn", "(IJ)I"⟩
abbrev cX5_hush : ByteArray := prog_7_method_32_code
def yX5_hush : MethodName := ⟨RX5, "hush", "()V"⟩
abbrev cX5_findOrder : ByteArray := prog_7_method_33_code
def yX5_findOrder : MethodName := ⟨RX5, "findOrder", "(IJ)V"⟩
abbrev cX5_order : ByteArray := prog_7_method_34_code
def yX5_order : MethodName := ⟨RX5, "order", "(IJI)I"⟩
abbrev cX5_worthOf : ByteArray := prog_7_method_35_code
def yX5_worthOf : MethodName := ⟨RX5, "worthOf", "(IIJ)I"⟩
abbrev cX5_orders : ByteArray := prog_7_method_36_code
def yX5_orders : MethodName := ⟨RX5, "orders", "(I)I"⟩
abbrev cX5_divisor : ByteArray := prog_7_method_37_code
def yX5_divisor : MethodName := ⟨RX5, "divisor", "(II)I"⟩
abbrev cX5_fraction : ByteArray := prog_7_method_38_code
def yX5_fraction : MethodName := ⟨RX5, "fraction", "(IIZ)I"⟩
abbrev cX5_share : ByteArray := prog_7_method_39_code
def yX5_share : MethodName := ⟨RX5, "share", "(IIJZ)I"⟩
abbrev cX5_bears : ByteArray := prog_7_method_40_code
def yX5_bears : MethodName := ⟨RX5, "bears", "(I)I"⟩
abbrev cX5_ten : ByteArray := prog_7_method_41_code
def yX5_ten : MethodName := ⟨RX5, "ten", "(I)I"⟩
abbrev cX5_still : ByteArray := prog_7_method_42_code
def yX5_still : MethodName := ⟨RX5, "still", "(IIIIZ)I"⟩
abbrev cX5_pebbles : ByteArray := prog_7_method_43_code
def yX5_pebbles : MethodName := ⟨RX5, "pebbles", "(IIZ)I"⟩
abbrev cX5_tell : ByteArray := prog_7_method_44_code
def yX5_tell : MethodName := ⟨RX5, "tell", "(IZ)I"⟩
abbrev cX5_untell : ByteArray := prog_7_method_45_code
def yX5_untell : MethodName := ⟨RX5, "untell", "()I"⟩
abbrev cX5_letGo : ByteArray := prog_7_method_46_code
def yX5_letGo : MethodName := ⟨RX5, "letGo", "(Z)I"⟩
abbrev cX5_link : ByteArray := prog_7_method_47_code
def yX5_link : MethodName := ⟨RX5, "link", "(IIIZ)I"⟩
abbrev cX5_seed : ByteArray := prog_7_method_48_code
def yX5_seed : MethodName := ⟨RX5, "seed", "(J)J"⟩
abbrev cX5_gorges : ByteArray := prog_7_method_49_code
def yX5_gorges : MethodName := ⟨RX5, "gorges", "(I)I"⟩
abbrev cX5_keep : ByteArray := prog_7_method_50_code
def yX5_keep : MethodName := ⟨RX5, "keep", "(I)I"⟩
abbrev cX5_again : ByteArray := prog_7_method_51_code
def yX5_again : MethodName := ⟨RX5, "again", "(I)I"⟩
def RJ6 : String := "java/lang/Integer"
def TJ6 : u_T := fun k => match k with
  | _ => ("", "", "", false)
def tyJ6 : Nat → FieldType := fun k => match k with
  | _ => .int
abbrev wsJ60 : List Cond := u_ws RJ6 TJ6 0
theorem nmJ6 : ∀ a, a < 0 → ∀ b, b < 0 → a ≠ b → (TJ6 a).2.1 ≠ (TJ6 b).2.1 := by decide +kernel
theorem tyJ6_ok : ∀ k, k < 0 → parseFieldDescriptor (TJ6 k).2.2.1 = some (tyJ6 k) := by decide +kernel
abbrev cJ6_bitCount_0f7a4 : ByteArray := prog_8_method_49_code
def yJ6_bitCount_0f7a4 : MethodName := ⟨RJ6, "bitCount", "(I)I"⟩
def RJ9 : String := "java/lang/Math"
def TJ9 : u_T := fun k => match k with
  | _ => ("", "", "", false)
def tyJ9 : Nat → FieldType := fun k => match k with
  | _ => .int
abbrev wsJ90 : List Cond := u_ws RJ9 TJ9 0
theorem nmJ9 : ∀ a, a < 0 → ∀ b, b < 0 → a ≠ b → (TJ9 a).2.1 ≠ (TJ9 b).2.1 := by decide +kernel
theorem tyJ9_ok : ∀ k, k < 0 → parseFieldDescriptor (TJ9 k).2.2.1 = some (tyJ9 k) := by decide +kernel
abbrev cJ9_abs_067f4 : ByteArray := prog_9_method_61_code
def yJ9_abs_067f4 : MethodName := ⟨RJ9, "abs", "(J)J"⟩
abbrev cJ9_max_7cf53 : ByteArray := prog_9_method_65_code
def yJ9_max_7cf53 : MethodName := ⟨RJ9, "max", "(II)I"⟩
def RJ10 : String := "java/lang/System"
def TJ10 : u_T := fun k => match k with
  | _ => ("", "", "", false)
def tyJ10 : Nat → FieldType := fun k => match k with
  | _ => .int
abbrev wsJ100 : List Cond := u_ws RJ10 TJ10 0
theorem nmJ10 : ∀ a, a < 0 → ∀ b, b < 0 → a ≠ b → (TJ10 a).2.1 ≠ (TJ10 b).2.1 := by decide +kernel
theorem tyJ10_ok : ∀ k, k < 0 → parseFieldDescriptor (TJ10 k).2.2.1 = some (tyJ10 k) := by decide +kernel
def RL : String := "GorgeRowLaw"
abbrev cL_law : ByteArray := code
def yL_law : MethodName := ⟨RL, "law", "([I)Z"⟩
def wsX0_at : List Cond := .code yX0_at cX0_at 2 (some .int) :: ([])
def wsX0_with : List Cond := .code yX0_with cX0_with 3 (some .int) :: ([])
def wsX0_swapped : List Cond := .code yX0_swapped cX0_swapped 3 (some .int) :: ([.methodLink RX0 9 yX0_at, .static yX0_at, .initialized RX0, .code yX0_at cX0_at 2 (some .int), .methodLink RX0 15 yX0_with, .static yX0_with, .code yX0_with cX0_with 3 (some .int)])
def wsX0_without : List Cond := .code yX0_without cX0_without 3 (some .int) :: ([])
def wsX0_size : List Cond := .code yX0_size cX0_size 2 (some .int) :: ([.methodLink RX0 9 yX0_at, .static yX0_at, .initialized RX0, .code yX0_at cX0_at 2 (some .int)])
def wsX0_members : List Cond := .code yX0_members cX0_members 3 (some .int) :: ([.methodLink RX0 19 yX0_size, .static yX0_size, .initialized RX0, .code yX0_size cX0_size 2 (some .int), .methodLink RX0 9 yX0_at, .static yX0_at, .code yX0_at cX0_at 2 (some .int)])
def wsX0_figures : List Cond := .code yX0_figures cX0_figures 3 (some .int) :: ([.methodLink RX0 19 yX0_size, .static yX0_size, .initialized RX0, .code yX0_size cX0_size 2 (some .int), .methodLink RX0 9 yX0_at, .static yX0_at, .code yX0_at cX0_at 2 (some .int)])
def wsX0_only : List Cond := .code yX0_only cX0_only 4 (some .int) :: ([.methodLink RX0 19 yX0_size, .static yX0_size, .initialized RX0, .code yX0_size cX0_size 2 (some .int), .methodLink RX0 9 yX0_at, .static yX0_at, .code yX0_at cX0_at 2 (some .int), .methodLink RX0 23 yX0_without, .static yX0_without, .code yX0_without cX0_without 3 (some .int)])
def wsX0_ascending : List Cond := .code yX0_ascending cX0_ascending 4 (some .int) :: ([.methodLink RX0 15 yX0_with, .static yX0_with, .initialized RX0, .code yX0_with cX0_with 3 (some .int)])
def wsX0_nextOrder : List Cond := .code yX0_nextOrder cX0_nextOrder 7 (some .int) :: ([.methodLink RX0 19 yX0_size, .static yX0_size, .initialized RX0, .code yX0_size cX0_size 2 (some .int), .methodLink RX0 9 yX0_at, .static yX0_at, .code yX0_at cX0_at 2 (some .int), .methodLink RX0 26 yX0_swapped, .static yX0_swapped, .code yX0_swapped cX0_swapped 3 (some .int), .methodLink RX0 15 yX0_with, .static yX0_with, .code yX0_with cX0_with 3 (some .int)])
def wsX1_init : List Cond := .code yX1_init cX1_init 1 none :: ([.methodLink RX1 1 objectInit, .instanceMethod objectInit, .code objectInit ⟨#[0xb1]⟩ 1 none, .fieldLink RX1 7 "GorgeRow$Path" "walkers" "I", .fieldLink RX1 13 "GorgeRow$Path" "light" "I", .fieldLink RX1 16 "GorgeRow$Path" "water" "I", .fieldLink RX1 19 "GorgeRow$Path" "nerves" "I", .fieldLink RX1 22 "GorgeRow$Path" "kinds" "I"] ++ wsX10)
def wsX2_byteAt : List Cond := .code yX2_byteAt cX2_byteAt 2 (some .int) :: ([.fieldLink RX2 9 "GorgeRow$Text" "bytes" "[I"] ++ wsX20)
def wsX2_figure : List Cond := .code yX2_figure cX2_figure 2 (some .int) :: ([.methodLink RX2 19 yX2_byteAt, .instanceMethod yX2_byteAt, .selects RX2 yX2_byteAt yX2_byteAt, .initialized RX2, .code yX2_byteAt cX2_byteAt 2 (some .int), .fieldLink RX2 9 "GorgeRow$Text" "bytes" "[I"] ++ wsX20)
def wsX2_parts : List Cond := .code yX2_parts cX2_parts 1 (some .int) :: ([.fieldLink RX2 15 "GorgeRow$Text" "length" "I"] ++ wsX20)
def wsX2_nerve : List Cond := .code yX2_nerve cX2_nerve 2 (some .int) :: ([.methodLink RX2 23 yX2_figure, .instanceMethod yX2_figure, .selects RX2 yX2_figure yX2_figure, .initialized RX2, .code yX2_figure cX2_figure 2 (some .int), .methodLink RX2 19 yX2_byteAt, .instanceMethod yX2_byteAt, .selects RX2 yX2_byteAt yX2_byteAt, .code yX2_byteAt cX2_byteAt 2 (some .int), .fieldLink RX2 9 "GorgeRow$Text" "bytes" "[I"] ++ wsX20)
def wsX2_kind : List Cond := .code yX2_kind cX2_kind 2 (some .int) :: ([.methodLink RX2 23 yX2_figure, .instanceMethod yX2_figure, .selects RX2 yX2_figure yX2_figure, .initialized RX2, .code yX2_figure cX2_figure 2 (some .int), .methodLink RX2 19 yX2_byteAt, .instanceMethod yX2_byteAt, .selects RX2 yX2_byteAt yX2_byteAt, .code yX2_byteAt cX2_byteAt 2 (some .int), .fieldLink RX2 9 "GorgeRow$Text" "bytes" "[I"] ++ wsX20)
def wsX1_read_r1 : List Cond := [Cond.fieldLink RX1 13 "GorgeRow$Path" "light" "I", Cond.fieldLink RX1 16 "GorgeRow$Path" "water" "I", Cond.fieldLink RX1 7 "GorgeRow$Path" "walkers" "I", Cond.fieldLink RX1 19 "GorgeRow$Path" "nerves" "I", Cond.fieldLink RX1 22 "GorgeRow$Path" "kinds" "I", Cond.methodLink RX1 25 yX2_figure, Cond.instanceMethod yX2_figure, Cond.selects RX2 yX2_figure yX2_figure, Cond.initialized RX2, Cond.code yX2_figure cX2_figure 2 (some .int), Cond.methodLink RX2 19 yX2_byteAt, Cond.instanceMethod yX2_byteAt, Cond.selects RX2 yX2_byteAt yX2_byteAt, Cond.code yX2_byteAt cX2_byteAt 2 (some .int), Cond.fieldLink RX2 9 "GorgeRow$Text" "bytes" "[I", Cond.methodLink RX1 31 yX2_parts, Cond.instanceMethod yX2_parts, Cond.selects RX2 yX2_parts yX2_parts, Cond.code yX2_parts cX2_parts 1 (some .int), Cond.fieldLink RX2 15 "GorgeRow$Text" "length" "I", Cond.methodLink RX1 35 yX2_nerve, Cond.instanceMethod yX2_nerve, Cond.selects RX2 yX2_nerve yX2_nerve, Cond.code yX2_nerve cX2_nerve 2 (some .int)]
def wsX1_read_r2 : List Cond := [Cond.methodLink RX2 23 yX2_figure, Cond.methodLink RX1 38 yX0_with, Cond.static yX0_with, Cond.initialized RX0, Cond.code yX0_with cX0_with 3 (some .int), Cond.methodLink RX1 44 yX2_kind, Cond.instanceMethod yX2_kind, Cond.selects RX2 yX2_kind yX2_kind, Cond.code yX2_kind cX2_kind 2 (some .int)]
def wsX1_read : List Cond := .code yX1_read cX1_read 3 none :: ((wsX1_read_r1 ++ wsX1_read_r2) ++ wsX10 ++ wsX20)
def wsX1_walkers : List Cond := .code yX1_walkers cX1_walkers 1 (some .int) :: ([.fieldLink RX1 7 "GorgeRow$Path" "walkers" "I"] ++ wsX10)
def wsX1_light : List Cond := .code yX1_light cX1_light 1 (some .int) :: ([.fieldLink RX1 13 "GorgeRow$Path" "light" "I"] ++ wsX10)
def wsX1_water : List Cond := .code yX1_water cX1_water 1 (some .int) :: ([.fieldLink RX1 16 "GorgeRow$Path" "water" "I"] ++ wsX10)
def wsX4_within : List Cond := .code yX4_within cX4_within 3 (some .boolean) :: ([])
def wsX1_has : List Cond := .code yX1_has cX1_has 2 (some .boolean) :: ([.fieldLink RX1 7 "GorgeRow$Path" "walkers" "I", .static yX4_within, .initialized RX4, .code yX4_within cX4_within 3 (some .boolean)] ++ wsX10)
def wsX1_everybody : List Cond := .code yX1_everybody cX1_everybody 1 (some .int) :: ([.fieldLink RX1 7 "GorgeRow$Path" "walkers" "I"] ++ wsX10)
def wsX1_nerve : List Cond := .code yX1_nerve cX1_nerve 2 (some .int) :: ([.fieldLink RX1 19 "GorgeRow$Path" "nerves" "I", .methodLink RX1 53 yX0_at, .static yX0_at, .initialized RX0, .code yX0_at cX0_at 2 (some .int)] ++ wsX10)
def wsX1_kind : List Cond := .code yX1_kind cX1_kind 2 (some .int) :: ([.fieldLink RX1 22 "GorgeRow$Path" "kinds" "I", .methodLink RX1 53 yX0_at, .static yX0_at, .initialized RX0, .code yX0_at cX0_at 2 (some .int)] ++ wsX10)
def wsX2_init : List Cond := .code yX2_init cX2_init 1 none :: ([.methodLink RX2 3 objectInit, .instanceMethod objectInit, .code objectInit ⟨#[0xb1]⟩ 1 none, .arrayClass .int, .fieldLink RX2 9 "GorgeRow$Text" "bytes" "[I", .fieldLink RX2 15 "GorgeRow$Text" "length" "I"] ++ wsX20)
def wsX2_length : List Cond := .code yX2_length cX2_length 1 (some .int) :: ([.fieldLink RX2 15 "GorgeRow$Text" "length" "I"] ++ wsX20)
def wsX2_append : List Cond := .code yX2_append cX2_append 2 (some .boolean) :: ([.fieldLink RX2 15 "GorgeRow$Text" "length" "I", .fieldLink RX2 9 "GorgeRow$Text" "bytes" "[I"] ++ wsX20)
def wsX2_clear : List Cond := .code yX2_clear cX2_clear 1 none :: ([.fieldLink RX2 15 "GorgeRow$Text" "length" "I"] ++ wsX20)
def wsX2_fitsPart : List Cond := .code yX2_fitsPart cX2_fitsPart 2 (some .boolean) :: ([.methodLink RX2 19 yX2_byteAt, .instanceMethod yX2_byteAt, .selects RX2 yX2_byteAt yX2_byteAt, .initialized RX2, .code yX2_byteAt cX2_byteAt 2 (some .int), .fieldLink RX2 9 "GorgeRow$Text" "bytes" "[I", .methodLink RX2 23 yX2_figure, .instanceMethod yX2_figure, .selects RX2 yX2_figure yX2_figure, .code yX2_figure cX2_figure 2 (some .int), .static yX4_within, .initialized RX4, .code yX4_within cX4_within 3 (some .boolean)] ++ wsX20)
def wsX2_fits : List Cond := .code yX2_fits cX2_fits 2 (some .boolean) :: ([.methodLink RX2 19 yX2_byteAt, .instanceMethod yX2_byteAt, .selects RX2 yX2_byteAt yX2_byteAt, .initialized RX2, .code yX2_byteAt cX2_byteAt 2 (some .int), .fieldLink RX2 9 "GorgeRow$Text" "bytes" "[I", .methodLink RX2 23 yX2_figure, .instanceMethod yX2_figure, .selects RX2 yX2_figure yX2_figure, .code yX2_figure cX2_figure 2 (some .int), .static yX4_within, .initialized RX4, .code yX4_within cX4_within 3 (some .boolean), .methodLink RX2 34 yX2_fitsPart, .instanceMethod yX2_fitsPart, .selects RX2 yX2_fitsPart yX2_fitsPart, .code yX2_fitsPart cX2_fitsPart 2 (some .boolean)] ++ wsX20)
def wsX2_firstFault : List Cond := .code yX2_firstFault cX2_firstFault 2 (some .int) :: ([.fieldLink RX2 15 "GorgeRow$Text" "length" "I", .methodLink RX2 26 yX2_fits, .instanceMethod yX2_fits, .selects RX2 yX2_fits yX2_fits, .initialized RX2, .code yX2_fits cX2_fits 2 (some .boolean), .methodLink RX2 19 yX2_byteAt, .instanceMethod yX2_byteAt, .selects RX2 yX2_byteAt yX2_byteAt, .code yX2_byteAt cX2_byteAt 2 (some .int), .fieldLink RX2 9 "GorgeRow$Text" "bytes" "[I", .methodLink RX2 23 yX2_figure, .instanceMethod yX2_figure, .selects RX2 yX2_figure yX2_figure, .code yX2_figure cX2_figure 2 (some .int), .static yX4_within, .initialized RX4, .code yX4_within cX4_within 3 (some .boolean), .methodLink RX2 34 yX2_fitsPart, .instanceMethod yX2_fitsPart, .selects RX2 yX2_fitsPart yX2_fitsPart, .code yX2_fitsPart cX2_fitsPart 2 (some .boolean)] ++ wsX20)
def wsX3_init : List Cond := .code yX3_init cX3_init 2 none :: ([.methodLink RX3 5 objectInit, .instanceMethod objectInit, .code objectInit ⟨#[0xb1]⟩ 1 none, .fieldLink RX3 11 "GorgeRow$Walk" "row" "I", .fieldLink RX3 15 "GorgeRow$Walk" "quiets" "I", .fieldLink RX3 18 "GorgeRow$Walk" "place" "I", .fieldLink RX3 21 "GorgeRow$Walk" "turned" "I", .fieldLink RX3 24 "GorgeRow$Walk" "path" "LGorgeRow$Path;"] ++ wsX30)
def wsX3_row : List Cond := .code yX3_row cX3_row 1 (some .int) :: ([.fieldLink RX3 11 "GorgeRow$Walk" "row" "I"] ++ wsX30)
def wsX3_place : List Cond := .code yX3_place cX3_place 1 (some .int) :: ([.fieldLink RX3 18 "GorgeRow$Walk" "place" "I"] ++ wsX30)
def wsX3_size : List Cond := .code yX3_size cX3_size 1 (some .int) :: ([.fieldLink RX3 11 "GorgeRow$Walk" "row" "I", .methodLink RX3 28 yX0_size, .static yX0_size, .initialized RX0, .code yX0_size cX0_size 2 (some .int), .methodLink RX0 9 yX0_at, .static yX0_at, .code yX0_at cX0_at 2 (some .int)] ++ wsX30)
def wsX3_members : List Cond := .code yX3_members cX3_members 1 (some .int) :: ([.fieldLink RX3 11 "GorgeRow$Walk" "row" "I", .methodLink RX3 34 yX0_members, .static yX0_members, .initialized RX0, .code yX0_members cX0_members 3 (some .int), .methodLink RX0 19 yX0_size, .static yX0_size, .code yX0_size cX0_size 2 (some .int), .methodLink RX0 9 yX0_at, .static yX0_at, .code yX0_at cX0_at 2 (some .int)] ++ wsX30)
def wsX3_isOut : List Cond := .code yX3_isOut cX3_isOut 1 (some .boolean) :: ([.fieldLink RX3 18 "GorgeRow$Walk" "place" "I", .fieldLink RX3 24 "GorgeRow$Walk" "path" "LGorgeRow$Path;", .methodLink RX3 37 yX1_light, .instanceMethod yX1_light, .selects RX1 yX1_light yX1_light, .initialized RX1, .code yX1_light cX1_light 1 (some .int), .fieldLink RX1 13 "GorgeRow$Path" "light" "I"] ++ wsX30 ++ wsX10)
def wsX3_quiet : List Cond := .code yX3_quiet cX3_quiet 2 (some .int) :: ([.fieldLink RX3 15 "GorgeRow$Walk" "quiets" "I", .methodLink RX3 43 yX0_at, .static yX0_at, .initialized RX0, .code yX0_at cX0_at 2 (some .int)] ++ wsX30)
def wsX3_turned : List Cond := .code yX3_turned cX3_turned 1 (some .int) :: ([.fieldLink RX3 21 "GorgeRow$Walk" "turned" "I"] ++ wsX30)
def wsX3_walkerAt : List Cond := .code yX3_walkerAt cX3_walkerAt 2 (some .int) :: ([.fieldLink RX3 11 "GorgeRow$Walk" "row" "I", .methodLink RX3 43 yX0_at, .static yX0_at, .initialized RX0, .code yX0_at cX0_at 2 (some .int)] ++ wsX30)
def wsX3_indexOf : List Cond := .code yX3_indexOf cX3_indexOf 3 (some .int) :: ([.methodLink RX3 47 yX3_size, .instanceMethod yX3_size, .selects RX3 yX3_size yX3_size, .initialized RX3, .code yX3_size cX3_size 1 (some .int), .fieldLink RX3 11 "GorgeRow$Walk" "row" "I", .methodLink RX3 28 yX0_size, .static yX0_size, .initialized RX0, .code yX0_size cX0_size 2 (some .int), .methodLink RX0 9 yX0_at, .static yX0_at, .code yX0_at cX0_at 2 (some .int), .methodLink RX3 49 yX3_walkerAt, .instanceMethod yX3_walkerAt, .selects RX3 yX3_walkerAt yX3_walkerAt, .code yX3_walkerAt cX3_walkerAt 2 (some .int), .methodLink RX3 43 yX0_at] ++ wsX30)
def wsX3_behind : List Cond := .code yX3_behind cX3_behind 3 (some .int) :: ([.methodLink RX3 52 yX3_indexOf, .instanceMethod yX3_indexOf, .selects RX3 yX3_indexOf yX3_indexOf, .initialized RX3, .code yX3_indexOf cX3_indexOf 3 (some .int), .methodLink RX3 47 yX3_size, .instanceMethod yX3_size, .selects RX3 yX3_size yX3_size, .code yX3_size cX3_size 1 (some .int), .fieldLink RX3 11 "GorgeRow$Walk" "row" "I", .methodLink RX3 28 yX0_size, .static yX0_size, .initialized RX0, .code yX0_size cX0_size 2 (some .int), .methodLink RX0 9 yX0_at, .static yX0_at, .code yX0_at cX0_at 2 (some .int), .methodLink RX3 49 yX3_walkerAt, .instanceMethod yX3_walkerAt, .selects RX3 yX3_walkerAt yX3_walkerAt, .code yX3_walkerAt cX3_walkerAt 2 (some .int), .methodLink RX3 43 yX0_at] ++ wsX30)
def wsX3_lineUp : List Cond := .code yX3_lineUp cX3_lineUp 3 none :: ([.fieldLink RX3 11 "GorgeRow$Walk" "row" "I", .fieldLink RX3 15 "GorgeRow$Walk" "quiets" "I", .fieldLink RX3 18 "GorgeRow$Walk" "place" "I"] ++ wsX30)
def wsX3_start : List Cond := .code yX3_start cX3_start 1 none :: ([.fieldLink RX3 24 "GorgeRow$Walk" "path" "LGorgeRow$Path;", .methodLink RX3 55 yX1_everybody, .instanceMethod yX1_everybody, .selects RX1 yX1_everybody yX1_everybody, .initialized RX1, .code yX1_everybody cX1_everybody 1 (some .int), .fieldLink RX1 7 "GorgeRow$Path" "walkers" "I", .methodLink RX3 58 yX0_ascending, .static yX0_ascending, .initialized RX0, .code yX0_ascending cX0_ascending 4 (some .int), .methodLink RX0 15 yX0_with, .static yX0_with, .code yX0_with cX0_with 3 (some .int), .methodLink RX3 61 yX3_lineUp, .instanceMethod yX3_lineUp, .selects RX3 yX3_lineUp yX3_lineUp, .initialized RX3, .code yX3_lineUp cX3_lineUp 3 none, .fieldLink RX3 11 "GorgeRow$Walk" "row" "I", .fieldLink RX3 15 "GorgeRow$Walk" "quiets" "I", .fieldLink RX3 18 "GorgeRow$Walk" "place" "I"] ++ wsX30 ++ wsX10)
def wsX3_state : List Cond := .code yX3_state cX3_state 1 (some .long) :: ([.fieldLink RX3 18 "GorgeRow$Walk" "place" "I", .fieldLink RX3 15 "GorgeRow$Walk" "quiets" "I", .fieldLink RX3 11 "GorgeRow$Walk" "row" "I"] ++ wsX30)
def wsX3_become : List Cond := .code yX3_become cX3_become 3 none :: ([.constant RX3 65 (1048575), .fieldLink RX3 11 "GorgeRow$Walk" "row" "I", .fieldLink RX3 15 "GorgeRow$Walk" "quiets" "I", .fieldLink RX3 18 "GorgeRow$Walk" "place" "I"] ++ wsX30)
def wsX3_setQuiet : List Cond := .code yX3_setQuiet cX3_setQuiet 3 none :: ([.fieldLink RX3 15 "GorgeRow$Walk" "quiets" "I", .methodLink RX3 106 yX0_with, .static yX0_with, .initialized RX0, .code yX0_with cX0_with 3 (some .int)] ++ wsX30)
def wsX3_changePlaces : List Cond := .code yX3_changePlaces cX3_changePlaces 2 none :: ([.fieldLink RX3 11 "GorgeRow$Walk" "row" "I", .methodLink RX3 66 yX0_swapped, .static yX0_swapped, .initialized RX0, .code yX0_swapped cX0_swapped 3 (some .int), .methodLink RX0 9 yX0_at, .static yX0_at, .code yX0_at cX0_at 2 (some .int), .methodLink RX0 15 yX0_with, .static yX0_with, .code yX0_with cX0_with 3 (some .int), .methodLink RX3 49 yX3_walkerAt, .instanceMethod yX3_walkerAt, .selects RX3 yX3_walkerAt yX3_walkerAt, .initialized RX3, .code yX3_walkerAt cX3_walkerAt 2 (some .int), .methodLink RX3 43 yX0_at, .methodLink RX3 70 yX3_setQuiet, .instanceMethod yX3_setQuiet, .selects RX3 yX3_setQuiet yX3_setQuiet, .code yX3_setQuiet cX3_setQuiet 3 none, .fieldLink RX3 15 "GorgeRow$Walk" "quiets" "I", .methodLink RX3 106 yX0_with] ++ wsX30)
def wsX3_calm_r1 : List Cond := [Cond.methodLink RX3 47 yX3_size, Cond.instanceMethod yX3_size, Cond.selects RX3 yX3_size yX3_size, Cond.initialized RX3, Cond.code yX3_size cX3_size 1 (some .int), Cond.fieldLink RX3 11 "GorgeRow$Walk" "row" "I", Cond.methodLink RX3 28 yX0_size, Cond.static yX0_size, Cond.initialized RX0, Cond.code yX0_size cX0_size 2 (some .int), Cond.methodLink RX0 9 yX0_at, Cond.static yX0_at, Cond.code yX0_at cX0_at 2 (some .int), Cond.methodLink RX3 49 yX3_walkerAt, Cond.instanceMethod yX3_walkerAt, Cond.selects RX3 yX3_walkerAt yX3_walkerAt, Cond.code yX3_walkerAt cX3_walkerAt 2 (some .int), Cond.methodLink RX3 43 yX0_at, Cond.methodLink RX3 73 yX3_quiet, Cond.instanceMethod yX3_quiet, Cond.selects RX3 yX3_quiet yX3_quiet, Cond.code yX3_quiet cX3_quiet 2 (some .int), Cond.fieldLink RX3 15 "GorgeRow$Walk" "quiets" "I", Cond.methodLink RX3 70 yX3_setQuiet]
def wsX3_calm_r2 : List Cond := [Cond.instanceMethod yX3_setQuiet, Cond.selects RX3 yX3_setQuiet yX3_setQuiet, Cond.code yX3_setQuiet cX3_setQuiet 3 none, Cond.methodLink RX3 106 yX0_with, Cond.static yX0_with, Cond.code yX0_with cX0_with 3 (some .int)]
def wsX3_calm : List Cond := .code yX3_calm cX3_calm 3 (some .int) :: ((wsX3_calm_r1 ++ wsX3_calm_r2) ++ wsX30)
def wsX3_treadsOf : List Cond := .code yX3_treadsOf cX3_treadsOf 6 (some .int) :: ([.constantLong RX3 109 (100)])
def wsX3_isHeard : List Cond := .code yX3_isHeard cX3_isHeard 6 (some .boolean) :: ([.fieldLink RX3 24 "GorgeRow$Walk" "path" "LGorgeRow$Path;", .fieldLink RX3 18 "GorgeRow$Walk" "place" "I", .methodLink RX3 87 yX1_kind, .instanceMethod yX1_kind, .selects RX1 yX1_kind yX1_kind, .initialized RX1, .code yX1_kind cX1_kind 2 (some .int), .fieldLink RX1 22 "GorgeRow$Path" "kinds" "I", .methodLink RX1 53 yX0_at, .static yX0_at, .initialized RX0, .code yX0_at cX0_at 2 (some .int), .methodLink RX3 97 yX1_water, .instanceMethod yX1_water, .selects RX1 yX1_water yX1_water, .code yX1_water cX1_water 1 (some .int), .fieldLink RX1 16 "GorgeRow$Path" "water" "I"] ++ wsX30 ++ wsX10)
def wsX3_turnRound_r1 : List Cond := [Cond.fieldLink RX3 21 "GorgeRow$Walk" "turned" "I", Cond.fieldLink RX3 11 "GorgeRow$Walk" "row" "I", Cond.fieldLink RX3 24 "GorgeRow$Walk" "path" "LGorgeRow$Path;", Cond.methodLink RX3 28 yX0_size, Cond.static yX0_size, Cond.initialized RX0, Cond.code yX0_size cX0_size 2 (some .int), Cond.methodLink RX0 9 yX0_at, Cond.static yX0_at, Cond.code yX0_at cX0_at 2 (some .int), Cond.methodLink RX3 49 yX3_walkerAt, Cond.instanceMethod yX3_walkerAt, Cond.selects RX3 yX3_walkerAt yX3_walkerAt, Cond.initialized RX3, Cond.code yX3_walkerAt cX3_walkerAt 2 (some .int), Cond.methodLink RX3 43 yX0_at, Cond.methodLink RX3 87 yX1_kind, Cond.instanceMethod yX1_kind, Cond.selects RX1 yX1_kind yX1_kind, Cond.initialized RX1, Cond.code yX1_kind cX1_kind 2 (some .int), Cond.fieldLink RX1 22 "GorgeRow$Path" "kinds" "I", Cond.methodLink RX1 53 yX0_at, Cond.methodLink RX3 73 yX3_quiet]
def wsX3_turnRound_r2 : List Cond := [Cond.instanceMethod yX3_quiet, Cond.selects RX3 yX3_quiet yX3_quiet, Cond.code yX3_quiet cX3_quiet 2 (some .int), Cond.fieldLink RX3 15 "GorgeRow$Walk" "quiets" "I", Cond.methodLink RX3 100 yX1_nerve, Cond.instanceMethod yX1_nerve, Cond.selects RX1 yX1_nerve yX1_nerve, Cond.code yX1_nerve cX1_nerve 2 (some .int), Cond.fieldLink RX1 19 "GorgeRow$Path" "nerves" "I", Cond.methodLink RX3 103 yX0_without, Cond.static yX0_without, Cond.code yX0_without cX0_without 3 (some .int), Cond.methodLink RX3 70 yX3_setQuiet, Cond.instanceMethod yX3_setQuiet, Cond.selects RX3 yX3_setQuiet yX3_setQuiet, Cond.code yX3_setQuiet cX3_setQuiet 3 none, Cond.methodLink RX3 106 yX0_with, Cond.static yX0_with, Cond.code yX0_with cX0_with 3 (some .int)]
def wsX3_turnRound : List Cond := .code yX3_turnRound cX3_turnRound 4 (some .int) :: ((wsX3_turnRound_r1 ++ wsX3_turnRound_r2) ++ wsX30 ++ wsX10)
def wsX3_step_r1 : List Cond := [Cond.fieldLink RX3 24 "GorgeRow$Walk" "path" "LGorgeRow$Path;", Cond.fieldLink RX3 18 "GorgeRow$Walk" "place" "I", Cond.methodLink RX3 47 yX3_size, Cond.instanceMethod yX3_size, Cond.selects RX3 yX3_size yX3_size, Cond.initialized RX3, Cond.code yX3_size cX3_size 1 (some .int), Cond.fieldLink RX3 11 "GorgeRow$Walk" "row" "I", Cond.methodLink RX3 28 yX0_size, Cond.static yX0_size, Cond.initialized RX0, Cond.code yX0_size cX0_size 2 (some .int), Cond.methodLink RX0 9 yX0_at, Cond.static yX0_at, Cond.code yX0_at cX0_at 2 (some .int), Cond.methodLink RX3 49 yX3_walkerAt, Cond.instanceMethod yX3_walkerAt, Cond.selects RX3 yX3_walkerAt yX3_walkerAt, Cond.code yX3_walkerAt cX3_walkerAt 2 (some .int), Cond.methodLink RX3 43 yX0_at, Cond.methodLink RX3 87 yX1_kind, Cond.instanceMethod yX1_kind, Cond.selects RX1 yX1_kind yX1_kind, Cond.initialized RX1]
def wsX3_step_r2 : List Cond := [Cond.code yX1_kind cX1_kind 2 (some .int), Cond.fieldLink RX1 22 "GorgeRow$Path" "kinds" "I", Cond.methodLink RX1 53 yX0_at, Cond.methodLink RX3 90 yX3_isHeard, Cond.instanceMethod yX3_isHeard, Cond.selects RX3 yX3_isHeard yX3_isHeard, Cond.code yX3_isHeard cX3_isHeard 6 (some .boolean), Cond.methodLink RX3 97 yX1_water, Cond.instanceMethod yX1_water, Cond.selects RX1 yX1_water yX1_water, Cond.code yX1_water cX1_water 1 (some .int), Cond.fieldLink RX1 16 "GorgeRow$Path" "water" "I", Cond.methodLink RX3 73 yX3_quiet, Cond.instanceMethod yX3_quiet, Cond.selects RX3 yX3_quiet yX3_quiet, Cond.code yX3_quiet cX3_quiet 2 (some .int), Cond.fieldLink RX3 15 "GorgeRow$Walk" "quiets" "I", Cond.methodLink RX3 70 yX3_setQuiet, Cond.instanceMethod yX3_setQuiet, Cond.selects RX3 yX3_setQuiet yX3_setQuiet, Cond.code yX3_setQuiet cX3_setQuiet 3 none, Cond.methodLink RX3 106 yX0_with, Cond.static yX0_with, Cond.code yX0_with cX0_with 3 (some .int)]
def wsX3_step_r3 : List Cond := [Cond.methodLink RX3 94 yX3_turnRound, Cond.instanceMethod yX3_turnRound, Cond.selects RX3 yX3_turnRound yX3_turnRound, Cond.code yX3_turnRound cX3_turnRound 4 (some .int), Cond.fieldLink RX3 21 "GorgeRow$Walk" "turned" "I", Cond.methodLink RX3 100 yX1_nerve, Cond.instanceMethod yX1_nerve, Cond.selects RX1 yX1_nerve yX1_nerve, Cond.code yX1_nerve cX1_nerve 2 (some .int), Cond.fieldLink RX1 19 "GorgeRow$Path" "nerves" "I", Cond.methodLink RX3 103 yX0_without, Cond.static yX0_without, Cond.code yX0_without cX0_without 3 (some .int)]
def wsX3_step : List Cond := .code yX3_step cX3_step 6 (some .int) :: ((wsX3_step_r1 ++ (wsX3_step_r2 ++ wsX3_step_r3)) ++ wsX30 ++ wsX10)
def wsX3_sing_r1 : List Cond := [Cond.fieldLink RX3 21 "GorgeRow$Walk" "turned" "I", Cond.methodLink RX3 76 yX3_isOut, Cond.instanceMethod yX3_isOut, Cond.selects RX3 yX3_isOut yX3_isOut, Cond.initialized RX3, Cond.code yX3_isOut cX3_isOut 1 (some .boolean), Cond.fieldLink RX3 18 "GorgeRow$Walk" "place" "I", Cond.fieldLink RX3 24 "GorgeRow$Walk" "path" "LGorgeRow$Path;", Cond.methodLink RX3 37 yX1_light, Cond.instanceMethod yX1_light, Cond.selects RX1 yX1_light yX1_light, Cond.initialized RX1, Cond.code yX1_light cX1_light 1 (some .int), Cond.fieldLink RX1 13 "GorgeRow$Path" "light" "I", Cond.methodLink RX3 80 yX3_treadsOf, Cond.static yX3_treadsOf, Cond.code yX3_treadsOf cX3_treadsOf 6 (some .int), Cond.constantLong RX3 109 (100), Cond.methodLink RX3 84 yX3_step, Cond.instanceMethod yX3_step, Cond.selects RX3 yX3_step yX3_step, Cond.code yX3_step cX3_step 6 (some .int), Cond.methodLink RX3 47 yX3_size, Cond.instanceMethod yX3_size]
def wsX3_sing_r2 : List Cond := [Cond.selects RX3 yX3_size yX3_size, Cond.code yX3_size cX3_size 1 (some .int), Cond.fieldLink RX3 11 "GorgeRow$Walk" "row" "I", Cond.methodLink RX3 28 yX0_size, Cond.static yX0_size, Cond.initialized RX0, Cond.code yX0_size cX0_size 2 (some .int), Cond.methodLink RX0 9 yX0_at, Cond.static yX0_at, Cond.code yX0_at cX0_at 2 (some .int), Cond.methodLink RX3 49 yX3_walkerAt, Cond.instanceMethod yX3_walkerAt, Cond.selects RX3 yX3_walkerAt yX3_walkerAt, Cond.code yX3_walkerAt cX3_walkerAt 2 (some .int), Cond.methodLink RX3 43 yX0_at, Cond.methodLink RX3 87 yX1_kind, Cond.instanceMethod yX1_kind, Cond.selects RX1 yX1_kind yX1_kind, Cond.code yX1_kind cX1_kind 2 (some .int), Cond.fieldLink RX1 22 "GorgeRow$Path" "kinds" "I", Cond.methodLink RX1 53 yX0_at, Cond.methodLink RX3 90 yX3_isHeard, Cond.instanceMethod yX3_isHeard, Cond.selects RX3 yX3_isHeard yX3_isHeard]
def wsX3_sing_r3 : List Cond := [Cond.code yX3_isHeard cX3_isHeard 6 (some .boolean), Cond.methodLink RX3 97 yX1_water, Cond.instanceMethod yX1_water, Cond.selects RX1 yX1_water yX1_water, Cond.code yX1_water cX1_water 1 (some .int), Cond.fieldLink RX1 16 "GorgeRow$Path" "water" "I", Cond.methodLink RX3 73 yX3_quiet, Cond.instanceMethod yX3_quiet, Cond.selects RX3 yX3_quiet yX3_quiet, Cond.code yX3_quiet cX3_quiet 2 (some .int), Cond.fieldLink RX3 15 "GorgeRow$Walk" "quiets" "I", Cond.methodLink RX3 70 yX3_setQuiet, Cond.instanceMethod yX3_setQuiet, Cond.selects RX3 yX3_setQuiet yX3_setQuiet, Cond.code yX3_setQuiet cX3_setQuiet 3 none, Cond.methodLink RX3 106 yX0_with, Cond.static yX0_with, Cond.code yX0_with cX0_with 3 (some .int), Cond.methodLink RX3 94 yX3_turnRound, Cond.instanceMethod yX3_turnRound, Cond.selects RX3 yX3_turnRound yX3_turnRound, Cond.code yX3_turnRound cX3_turnRound 4 (some .int), Cond.methodLink RX3 100 yX1_nerve, Cond.instanceMethod yX1_nerve]
def wsX3_sing_r4 : List Cond := [Cond.selects RX1 yX1_nerve yX1_nerve, Cond.code yX1_nerve cX1_nerve 2 (some .int), Cond.fieldLink RX1 19 "GorgeRow$Path" "nerves" "I", Cond.methodLink RX3 103 yX0_without, Cond.static yX0_without, Cond.code yX0_without cX0_without 3 (some .int)]
def wsX3_sing : List Cond := .code yX3_sing cX3_sing 6 (some .int) :: ((wsX3_sing_r1 ++ (wsX3_sing_r2 ++ (wsX3_sing_r3 ++ wsX3_sing_r4))) ++ wsX30 ++ wsX10)
def wsX4_init_r1 : List Cond := [Cond.methodLink RX4 1 objectInit, Cond.instanceMethod objectInit, Cond.code objectInit ⟨#[0xb1]⟩ 1 none, Cond.classLink RX4 7 RX2, Cond.instantiable RX2 2, Cond.initialized RX2, Cond.fieldLink RX4 10 "GorgeRow" "text" "LGorgeRow$Text;", Cond.classLink RX4 16 RX1, Cond.instantiable RX1 5, Cond.initialized RX1, Cond.fieldLink RX4 19 "GorgeRow" "path" "LGorgeRow$Path;", Cond.classLink RX4 23 RX3, Cond.instantiable RX3 5, Cond.initialized RX3, Cond.fieldLink RX4 28 "GorgeRow" "now" "LGorgeRow$Walk;", Cond.fieldLink RX4 32 "GorgeRow" "trial" "LGorgeRow$Walk;", Cond.arrayClass .long, Cond.fieldLink RX4 35 "GorgeRow" "acts" "[J", Cond.fieldLink RX4 39 "GorgeRow" "actCount" "I", Cond.constantLong RX4 43 (-1), Cond.fieldLink RX4 45 "GorgeRow" "kept" "[J", Cond.fieldLink RX4 48 "GorgeRow" "heardMinutes" "I", Cond.fieldLink RX4 51 "GorgeRow" "silentMinutes" "I", Cond.fieldLink RX4 54 "GorgeRow" "toldCount" "I"]
def wsX4_init_r2 : List Cond := [Cond.fieldLink RX4 57 "GorgeRow" "seedNow" "J", Cond.instanceMethod yX2_init, Cond.code yX2_init cX2_init 1 none, Cond.methodLink RX2 3 objectInit, Cond.arrayClass .int, Cond.fieldLink RX2 9 "GorgeRow$Text" "bytes" "[I", Cond.fieldLink RX2 15 "GorgeRow$Text" "length" "I", Cond.instanceMethod yX1_init, Cond.code yX1_init cX1_init 1 none, Cond.methodLink RX1 1 objectInit, Cond.fieldLink RX1 7 "GorgeRow$Path" "walkers" "I", Cond.fieldLink RX1 13 "GorgeRow$Path" "light" "I", Cond.fieldLink RX1 16 "GorgeRow$Path" "water" "I", Cond.fieldLink RX1 19 "GorgeRow$Path" "nerves" "I", Cond.fieldLink RX1 22 "GorgeRow$Path" "kinds" "I", Cond.methodLink RX4 25 yX3_init, Cond.instanceMethod yX3_init, Cond.code yX3_init cX3_init 2 none, Cond.methodLink RX3 5 objectInit, Cond.fieldLink RX3 11 "GorgeRow$Walk" "row" "I", Cond.fieldLink RX3 15 "GorgeRow$Walk" "quiets" "I", Cond.fieldLink RX3 18 "GorgeRow$Walk" "place" "I", Cond.fieldLink RX3 21 "GorgeRow$Walk" "turned" "I", Cond.fieldLink RX3 24 "GorgeRow$Walk" "path" "LGorgeRow$Path;"]
def wsX4_init : List Cond := .code yX4_init cX4_init 1 none :: ((wsX4_init_r1 ++ wsX4_init_r2) ++ wsX20 ++ wsX40 ++ wsX10 ++ wsX30)
def wsX4_write : List Cond := .code yX4_write cX4_write 2 (some .int) :: ([.fieldLink RX4 10 "GorgeRow" "text" "LGorgeRow$Text;", .methodLink RX4 61 yX4_within, .static yX4_within, .initialized RX4, .code yX4_within cX4_within 3 (some .boolean), .methodLink RX4 65 yX2_append, .instanceMethod yX2_append, .selects RX2 yX2_append yX2_append, .initialized RX2, .code yX2_append cX2_append 2 (some .boolean), .fieldLink RX2 15 "GorgeRow$Text" "length" "I", .fieldLink RX2 9 "GorgeRow$Text" "bytes" "[I", .methodLink RX4 69 yX2_length, .instanceMethod yX2_length, .selects RX2 yX2_length yX2_length, .code yX2_length cX2_length 1 (some .int)] ++ wsX40 ++ wsX20)
def wsX4_wipe : List Cond := .code yX4_wipe cX4_wipe 2 (some .int) :: ([.fieldLink RX4 10 "GorgeRow" "text" "LGorgeRow$Text;", .methodLink RX4 69 yX2_length, .instanceMethod yX2_length, .selects RX2 yX2_length yX2_length, .initialized RX2, .code yX2_length cX2_length 1 (some .int), .fieldLink RX2 15 "GorgeRow$Text" "length" "I", .methodLink RX4 73 yX2_clear, .instanceMethod yX2_clear, .selects RX2 yX2_clear yX2_clear, .code yX2_clear cX2_clear 1 none] ++ wsX40 ++ wsX20)
def wsX4_fault_r1 : List Cond := [Cond.fieldLink RX4 10 "GorgeRow" "text" "LGorgeRow$Text;", Cond.methodLink RX4 76 yX2_firstFault, Cond.instanceMethod yX2_firstFault, Cond.selects RX2 yX2_firstFault yX2_firstFault, Cond.initialized RX2, Cond.code yX2_firstFault cX2_firstFault 2 (some .int), Cond.fieldLink RX2 15 "GorgeRow$Text" "length" "I", Cond.methodLink RX2 26 yX2_fits, Cond.instanceMethod yX2_fits, Cond.selects RX2 yX2_fits yX2_fits, Cond.code yX2_fits cX2_fits 2 (some .boolean), Cond.methodLink RX2 19 yX2_byteAt, Cond.instanceMethod yX2_byteAt, Cond.selects RX2 yX2_byteAt yX2_byteAt, Cond.code yX2_byteAt cX2_byteAt 2 (some .int), Cond.fieldLink RX2 9 "GorgeRow$Text" "bytes" "[I", Cond.methodLink RX2 23 yX2_figure, Cond.instanceMethod yX2_figure, Cond.selects RX2 yX2_figure yX2_figure, Cond.code yX2_figure cX2_figure 2 (some .int), Cond.static yX4_within, Cond.initialized RX4, Cond.code yX4_within cX4_within 3 (some .boolean), Cond.methodLink RX2 34 yX2_fitsPart]
def wsX4_fault_r2 : List Cond := [Cond.instanceMethod yX2_fitsPart, Cond.selects RX2 yX2_fitsPart yX2_fitsPart, Cond.code yX2_fitsPart cX2_fitsPart 2 (some .boolean)]
def wsX4_fault : List Cond := .code yX4_fault cX4_fault 1 (some .int) :: ((wsX4_fault_r1 ++ wsX4_fault_r2) ++ wsX40 ++ wsX20)
def wsX4_forgetKept : List Cond := .code yX4_forgetKept cX4_forgetKept 2 none :: ([.fieldLink RX4 45 "GorgeRow" "kept" "[J", .constantLong RX4 43 (-1)] ++ wsX40)
def wsX4_gorge_r1 : List Cond := [Cond.fieldLink RX4 10 "GorgeRow" "text" "LGorgeRow$Text;", Cond.fieldLink RX4 19 "GorgeRow" "path" "LGorgeRow$Path;", Cond.fieldLink RX4 28 "GorgeRow" "now" "LGorgeRow$Walk;", Cond.fieldLink RX4 39 "GorgeRow" "actCount" "I", Cond.methodLink RX4 76 yX2_firstFault, Cond.instanceMethod yX2_firstFault, Cond.selects RX2 yX2_firstFault yX2_firstFault, Cond.initialized RX2, Cond.code yX2_firstFault cX2_firstFault 2 (some .int), Cond.fieldLink RX2 15 "GorgeRow$Text" "length" "I", Cond.methodLink RX2 26 yX2_fits, Cond.instanceMethod yX2_fits, Cond.selects RX2 yX2_fits yX2_fits, Cond.code yX2_fits cX2_fits 2 (some .boolean), Cond.methodLink RX2 19 yX2_byteAt, Cond.instanceMethod yX2_byteAt, Cond.selects RX2 yX2_byteAt yX2_byteAt, Cond.code yX2_byteAt cX2_byteAt 2 (some .int), Cond.fieldLink RX2 9 "GorgeRow$Text" "bytes" "[I", Cond.methodLink RX2 23 yX2_figure, Cond.instanceMethod yX2_figure, Cond.selects RX2 yX2_figure yX2_figure, Cond.code yX2_figure cX2_figure 2 (some .int), Cond.static yX4_within]
def wsX4_gorge_r2 : List Cond := [Cond.initialized RX4, Cond.code yX4_within cX4_within 3 (some .boolean), Cond.methodLink RX2 34 yX2_fitsPart, Cond.instanceMethod yX2_fitsPart, Cond.selects RX2 yX2_fitsPart yX2_fitsPart, Cond.code yX2_fitsPart cX2_fitsPart 2 (some .boolean), Cond.methodLink RX4 79 yX1_read, Cond.instanceMethod yX1_read, Cond.selects RX1 yX1_read yX1_read, Cond.initialized RX1, Cond.code yX1_read cX1_read 3 none, Cond.fieldLink RX1 13 "GorgeRow$Path" "light" "I", Cond.fieldLink RX1 16 "GorgeRow$Path" "water" "I", Cond.fieldLink RX1 7 "GorgeRow$Path" "walkers" "I", Cond.fieldLink RX1 19 "GorgeRow$Path" "nerves" "I", Cond.fieldLink RX1 22 "GorgeRow$Path" "kinds" "I", Cond.methodLink RX1 25 yX2_figure, Cond.methodLink RX1 31 yX2_parts, Cond.instanceMethod yX2_parts, Cond.selects RX2 yX2_parts yX2_parts, Cond.code yX2_parts cX2_parts 1 (some .int), Cond.methodLink RX1 35 yX2_nerve, Cond.instanceMethod yX2_nerve, Cond.selects RX2 yX2_nerve yX2_nerve]
def wsX4_gorge_r3 : List Cond := [Cond.code yX2_nerve cX2_nerve 2 (some .int), Cond.methodLink RX1 38 yX0_with, Cond.static yX0_with, Cond.initialized RX0, Cond.code yX0_with cX0_with 3 (some .int), Cond.methodLink RX1 44 yX2_kind, Cond.instanceMethod yX2_kind, Cond.selects RX2 yX2_kind yX2_kind, Cond.code yX2_kind cX2_kind 2 (some .int), Cond.methodLink RX4 83 yX3_start, Cond.instanceMethod yX3_start, Cond.selects RX3 yX3_start yX3_start, Cond.initialized RX3, Cond.code yX3_start cX3_start 1 none, Cond.fieldLink RX3 24 "GorgeRow$Walk" "path" "LGorgeRow$Path;", Cond.methodLink RX3 55 yX1_everybody, Cond.instanceMethod yX1_everybody, Cond.selects RX1 yX1_everybody yX1_everybody, Cond.code yX1_everybody cX1_everybody 1 (some .int), Cond.methodLink RX3 58 yX0_ascending, Cond.static yX0_ascending, Cond.code yX0_ascending cX0_ascending 4 (some .int), Cond.methodLink RX0 15 yX0_with, Cond.methodLink RX3 61 yX3_lineUp]
def wsX4_gorge_r4 : List Cond := [Cond.instanceMethod yX3_lineUp, Cond.selects RX3 yX3_lineUp yX3_lineUp, Cond.code yX3_lineUp cX3_lineUp 3 none, Cond.fieldLink RX3 11 "GorgeRow$Walk" "row" "I", Cond.fieldLink RX3 15 "GorgeRow$Walk" "quiets" "I", Cond.fieldLink RX3 18 "GorgeRow$Walk" "place" "I", Cond.methodLink RX4 86 yX4_forgetKept, Cond.instanceMethod yX4_forgetKept, Cond.selects RX4 yX4_forgetKept yX4_forgetKept, Cond.code yX4_forgetKept cX4_forgetKept 2 none, Cond.fieldLink RX4 45 "GorgeRow" "kept" "[J", Cond.constantLong RX4 43 (-1), Cond.methodLink RX4 89 yX1_walkers, Cond.instanceMethod yX1_walkers, Cond.selects RX1 yX1_walkers yX1_walkers, Cond.code yX1_walkers cX1_walkers 1 (some .int)]
def wsX4_gorge : List Cond := .code yX4_gorge cX4_gorge 1 (some .int) :: ((wsX4_gorge_r1 ++ (wsX4_gorge_r2 ++ (wsX4_gorge_r3 ++ wsX4_gorge_r4))) ++ wsX40 ++ wsX20 ++ wsX10 ++ wsX30)
def wsX4_about_r1 : List Cond := [Cond.fieldLink RX4 19 "GorgeRow" "path" "LGorgeRow$Path;", Cond.fieldLink RX4 28 "GorgeRow" "now" "LGorgeRow$Walk;", Cond.fieldLink RX4 39 "GorgeRow" "actCount" "I", Cond.fieldLink RX4 54 "GorgeRow" "toldCount" "I", Cond.fieldLink RX4 10 "GorgeRow" "text" "LGorgeRow$Text;", Cond.methodLink RX4 89 yX1_walkers, Cond.instanceMethod yX1_walkers, Cond.selects RX1 yX1_walkers yX1_walkers, Cond.initialized RX1, Cond.code yX1_walkers cX1_walkers 1 (some .int), Cond.fieldLink RX1 7 "GorgeRow$Path" "walkers" "I", Cond.methodLink RX4 92 yX1_light, Cond.instanceMethod yX1_light, Cond.selects RX1 yX1_light yX1_light, Cond.code yX1_light cX1_light 1 (some .int), Cond.fieldLink RX1 13 "GorgeRow$Path" "light" "I", Cond.methodLink RX4 95 yX1_water, Cond.instanceMethod yX1_water, Cond.selects RX1 yX1_water yX1_water, Cond.code yX1_water cX1_water 1 (some .int), Cond.fieldLink RX1 16 "GorgeRow$Path" "water" "I", Cond.methodLink RX4 98 yX3_place, Cond.instanceMethod yX3_place, Cond.selects RX3 yX3_place yX3_place]
def wsX4_about_r2 : List Cond := [Cond.initialized RX3, Cond.code yX3_place cX3_place 1 (some .int), Cond.fieldLink RX3 18 "GorgeRow$Walk" "place" "I", Cond.methodLink RX4 101 yX3_members, Cond.instanceMethod yX3_members, Cond.selects RX3 yX3_members yX3_members, Cond.code yX3_members cX3_members 1 (some .int), Cond.fieldLink RX3 11 "GorgeRow$Walk" "row" "I", Cond.methodLink RX3 34 yX0_members, Cond.static yX0_members, Cond.initialized RX0, Cond.code yX0_members cX0_members 3 (some .int), Cond.methodLink RX0 19 yX0_size, Cond.static yX0_size, Cond.code yX0_size cX0_size 2 (some .int), Cond.methodLink RX0 9 yX0_at, Cond.static yX0_at, Cond.code yX0_at cX0_at 2 (some .int), Cond.methodLink RX4 104 yX1_everybody, Cond.instanceMethod yX1_everybody, Cond.selects RX1 yX1_everybody yX1_everybody, Cond.code yX1_everybody cX1_everybody 1 (some .int), Cond.methodLink RX4 107 yX3_row, Cond.instanceMethod yX3_row]
def wsX4_about_r3 : List Cond := [Cond.selects RX3 yX3_row yX3_row, Cond.code yX3_row cX3_row 1 (some .int), Cond.methodLink RX4 110 yX0_figures, Cond.static yX0_figures, Cond.code yX0_figures cX0_figures 3 (some .int), Cond.methodLink RX4 69 yX2_length, Cond.instanceMethod yX2_length, Cond.selects RX2 yX2_length yX2_length, Cond.initialized RX2, Cond.code yX2_length cX2_length 1 (some .int), Cond.fieldLink RX2 15 "GorgeRow$Text" "length" "I", Cond.methodLink RX4 116 yX3_isOut, Cond.instanceMethod yX3_isOut, Cond.selects RX3 yX3_isOut yX3_isOut, Cond.code yX3_isOut cX3_isOut 1 (some .boolean), Cond.fieldLink RX3 24 "GorgeRow$Walk" "path" "LGorgeRow$Path;", Cond.methodLink RX3 37 yX1_light]
def wsX4_about : List Cond := .code yX4_about cX4_about 2 (some .int) :: ((wsX4_about_r1 ++ (wsX4_about_r2 ++ wsX4_about_r3)) ++ wsX40 ++ wsX10 ++ wsX30 ++ wsX20)
def wsX4_walker_r1 : List Cond := [Cond.fieldLink RX4 19 "GorgeRow" "path" "LGorgeRow$Path;", Cond.fieldLink RX4 28 "GorgeRow" "now" "LGorgeRow$Walk;", Cond.methodLink RX4 120 yX1_has, Cond.instanceMethod yX1_has, Cond.selects RX1 yX1_has yX1_has, Cond.initialized RX1, Cond.code yX1_has cX1_has 2 (some .boolean), Cond.fieldLink RX1 7 "GorgeRow$Path" "walkers" "I", Cond.static yX4_within, Cond.initialized RX4, Cond.code yX4_within cX4_within 3 (some .boolean), Cond.methodLink RX4 123 yX1_nerve, Cond.instanceMethod yX1_nerve, Cond.selects RX1 yX1_nerve yX1_nerve, Cond.code yX1_nerve cX1_nerve 2 (some .int), Cond.fieldLink RX1 19 "GorgeRow$Path" "nerves" "I", Cond.methodLink RX1 53 yX0_at, Cond.static yX0_at, Cond.initialized RX0, Cond.code yX0_at cX0_at 2 (some .int), Cond.methodLink RX4 126 yX1_kind, Cond.instanceMethod yX1_kind, Cond.selects RX1 yX1_kind yX1_kind, Cond.code yX1_kind cX1_kind 2 (some .int)]
def wsX4_walker_r2 : List Cond := [Cond.fieldLink RX1 22 "GorgeRow$Path" "kinds" "I", Cond.methodLink RX4 129 yX3_quiet, Cond.instanceMethod yX3_quiet, Cond.selects RX3 yX3_quiet yX3_quiet, Cond.initialized RX3, Cond.code yX3_quiet cX3_quiet 2 (some .int), Cond.fieldLink RX3 15 "GorgeRow$Walk" "quiets" "I", Cond.methodLink RX3 43 yX0_at, Cond.methodLink RX4 132 yX3_indexOf, Cond.instanceMethod yX3_indexOf, Cond.selects RX3 yX3_indexOf yX3_indexOf, Cond.code yX3_indexOf cX3_indexOf 3 (some .int), Cond.methodLink RX3 47 yX3_size, Cond.instanceMethod yX3_size, Cond.selects RX3 yX3_size yX3_size, Cond.code yX3_size cX3_size 1 (some .int), Cond.fieldLink RX3 11 "GorgeRow$Walk" "row" "I", Cond.methodLink RX3 28 yX0_size, Cond.static yX0_size, Cond.code yX0_size cX0_size 2 (some .int), Cond.methodLink RX0 9 yX0_at, Cond.methodLink RX3 49 yX3_walkerAt, Cond.instanceMethod yX3_walkerAt, Cond.selects RX3 yX3_walkerAt yX3_walkerAt]
def wsX4_walker_r3 : List Cond := [Cond.code yX3_walkerAt cX3_walkerAt 2 (some .int), Cond.methodLink RX4 135 yX3_behind, Cond.instanceMethod yX3_behind, Cond.selects RX3 yX3_behind yX3_behind, Cond.code yX3_behind cX3_behind 3 (some .int), Cond.methodLink RX3 52 yX3_indexOf]
def wsX4_walker : List Cond := .code yX4_walker cX4_walker 3 (some .int) :: ((wsX4_walker_r1 ++ (wsX4_walker_r2 ++ wsX4_walker_r3)) ++ wsX40 ++ wsX10 ++ wsX30)
def wsX4_remember : List Cond := .code yX4_remember cX4_remember 1 none :: ([.fieldLink RX4 39 "GorgeRow" "actCount" "I", .fieldLink RX4 35 "GorgeRow" "acts" "[J", .methodLink RX4 158 arraycopyName, .native arraycopyName, .static arraycopyName, .initialized "java/lang/System", .fieldLink RX4 28 "GorgeRow" "now" "LGorgeRow$Walk;", .methodLink RX4 164 yX3_state, .instanceMethod yX3_state, .selects RX3 yX3_state yX3_state, .initialized RX3, .code yX3_state cX3_state 1 (some .long), .fieldLink RX3 18 "GorgeRow$Walk" "place" "I", .fieldLink RX3 15 "GorgeRow$Walk" "quiets" "I", .fieldLink RX3 11 "GorgeRow$Walk" "row" "I"] ++ wsX40 ++ wsX30)
def wsX4_minute_r1 : List Cond := [Cond.fieldLink RX4 19 "GorgeRow" "path" "LGorgeRow$Path;", Cond.fieldLink RX4 28 "GorgeRow" "now" "LGorgeRow$Walk;", Cond.methodLink RX4 104 yX1_everybody, Cond.instanceMethod yX1_everybody, Cond.selects RX1 yX1_everybody yX1_everybody, Cond.initialized RX1, Cond.code yX1_everybody cX1_everybody 1 (some .int), Cond.fieldLink RX1 7 "GorgeRow$Path" "walkers" "I", Cond.methodLink RX4 61 yX4_within, Cond.static yX4_within, Cond.initialized RX4, Cond.code yX4_within cX4_within 3 (some .boolean), Cond.methodLink RX4 116 yX3_isOut, Cond.instanceMethod yX3_isOut, Cond.selects RX3 yX3_isOut yX3_isOut, Cond.initialized RX3, Cond.code yX3_isOut cX3_isOut 1 (some .boolean), Cond.fieldLink RX3 18 "GorgeRow$Walk" "place" "I", Cond.fieldLink RX3 24 "GorgeRow$Walk" "path" "LGorgeRow$Path;", Cond.methodLink RX3 37 yX1_light, Cond.instanceMethod yX1_light, Cond.selects RX1 yX1_light yX1_light, Cond.code yX1_light cX1_light 1 (some .int), Cond.fieldLink RX1 13 "GorgeRow$Path" "light" "I"]
def wsX4_minute_r2 : List Cond := [Cond.methodLink RX4 138 yX4_remember, Cond.instanceMethod yX4_remember, Cond.selects RX4 yX4_remember yX4_remember, Cond.code yX4_remember cX4_remember 1 none, Cond.fieldLink RX4 39 "GorgeRow" "actCount" "I", Cond.fieldLink RX4 35 "GorgeRow" "acts" "[J", Cond.methodLink RX4 158 arraycopyName, Cond.native arraycopyName, Cond.static arraycopyName, Cond.initialized "java/lang/System", Cond.methodLink RX4 164 yX3_state, Cond.instanceMethod yX3_state, Cond.selects RX3 yX3_state yX3_state, Cond.code yX3_state cX3_state 1 (some .long), Cond.fieldLink RX3 15 "GorgeRow$Walk" "quiets" "I", Cond.fieldLink RX3 11 "GorgeRow$Walk" "row" "I", Cond.methodLink RX4 141 yX3_step, Cond.instanceMethod yX3_step, Cond.selects RX3 yX3_step yX3_step, Cond.code yX3_step cX3_step 6 (some .int), Cond.methodLink RX3 47 yX3_size, Cond.instanceMethod yX3_size, Cond.selects RX3 yX3_size yX3_size, Cond.code yX3_size cX3_size 1 (some .int)]
def wsX4_minute_r3 : List Cond := [Cond.methodLink RX3 28 yX0_size, Cond.static yX0_size, Cond.initialized RX0, Cond.code yX0_size cX0_size 2 (some .int), Cond.methodLink RX0 9 yX0_at, Cond.static yX0_at, Cond.code yX0_at cX0_at 2 (some .int), Cond.methodLink RX3 49 yX3_walkerAt, Cond.instanceMethod yX3_walkerAt, Cond.selects RX3 yX3_walkerAt yX3_walkerAt, Cond.code yX3_walkerAt cX3_walkerAt 2 (some .int), Cond.methodLink RX3 43 yX0_at, Cond.methodLink RX3 87 yX1_kind, Cond.instanceMethod yX1_kind, Cond.selects RX1 yX1_kind yX1_kind, Cond.code yX1_kind cX1_kind 2 (some .int), Cond.fieldLink RX1 22 "GorgeRow$Path" "kinds" "I", Cond.methodLink RX1 53 yX0_at, Cond.methodLink RX3 90 yX3_isHeard, Cond.instanceMethod yX3_isHeard, Cond.selects RX3 yX3_isHeard yX3_isHeard, Cond.code yX3_isHeard cX3_isHeard 6 (some .boolean), Cond.methodLink RX3 97 yX1_water, Cond.instanceMethod yX1_water]
def wsX4_minute_r4 : List Cond := [Cond.selects RX1 yX1_water yX1_water, Cond.code yX1_water cX1_water 1 (some .int), Cond.fieldLink RX1 16 "GorgeRow$Path" "water" "I", Cond.methodLink RX3 73 yX3_quiet, Cond.instanceMethod yX3_quiet, Cond.selects RX3 yX3_quiet yX3_quiet, Cond.code yX3_quiet cX3_quiet 2 (some .int), Cond.methodLink RX3 70 yX3_setQuiet, Cond.instanceMethod yX3_setQuiet, Cond.selects RX3 yX3_setQuiet yX3_setQuiet, Cond.code yX3_setQuiet cX3_setQuiet 3 none, Cond.methodLink RX3 106 yX0_with, Cond.static yX0_with, Cond.code yX0_with cX0_with 3 (some .int), Cond.methodLink RX3 94 yX3_turnRound, Cond.instanceMethod yX3_turnRound, Cond.selects RX3 yX3_turnRound yX3_turnRound, Cond.code yX3_turnRound cX3_turnRound 4 (some .int), Cond.fieldLink RX3 21 "GorgeRow$Walk" "turned" "I", Cond.methodLink RX3 100 yX1_nerve, Cond.instanceMethod yX1_nerve, Cond.selects RX1 yX1_nerve yX1_nerve, Cond.code yX1_nerve cX1_nerve 2 (some .int), Cond.fieldLink RX1 19 "GorgeRow$Path" "nerves" "I"]
def wsX4_minute_r5 : List Cond := [Cond.methodLink RX3 103 yX0_without, Cond.static yX0_without, Cond.code yX0_without cX0_without 3 (some .int)]
def wsX4_minute : List Cond := .code yX4_minute cX4_minute 2 (some .int) :: ((wsX4_minute_r1 ++ (wsX4_minute_r2 ++ (wsX4_minute_r3 ++ (wsX4_minute_r4 ++ wsX4_minute_r5)))) ++ wsX40 ++ wsX10 ++ wsX30)
def wsX4_change_r1 : List Cond := [Cond.fieldLink RX4 28 "GorgeRow" "now" "LGorgeRow$Walk;", Cond.methodLink RX4 61 yX4_within, Cond.static yX4_within, Cond.initialized RX4, Cond.code yX4_within cX4_within 3 (some .boolean), Cond.methodLink RX4 116 yX3_isOut, Cond.instanceMethod yX3_isOut, Cond.selects RX3 yX3_isOut yX3_isOut, Cond.initialized RX3, Cond.code yX3_isOut cX3_isOut 1 (some .boolean), Cond.fieldLink RX3 18 "GorgeRow$Walk" "place" "I", Cond.fieldLink RX3 24 "GorgeRow$Walk" "path" "LGorgeRow$Path;", Cond.methodLink RX3 37 yX1_light, Cond.instanceMethod yX1_light, Cond.selects RX1 yX1_light yX1_light, Cond.initialized RX1, Cond.code yX1_light cX1_light 1 (some .int), Cond.fieldLink RX1 13 "GorgeRow$Path" "light" "I", Cond.methodLink RX4 144 yX3_size, Cond.instanceMethod yX3_size, Cond.selects RX3 yX3_size yX3_size, Cond.code yX3_size cX3_size 1 (some .int), Cond.fieldLink RX3 11 "GorgeRow$Walk" "row" "I", Cond.methodLink RX3 28 yX0_size]
def wsX4_change_r2 : List Cond := [Cond.static yX0_size, Cond.initialized RX0, Cond.code yX0_size cX0_size 2 (some .int), Cond.methodLink RX0 9 yX0_at, Cond.static yX0_at, Cond.code yX0_at cX0_at 2 (some .int), Cond.methodLink RX4 138 yX4_remember, Cond.instanceMethod yX4_remember, Cond.selects RX4 yX4_remember yX4_remember, Cond.code yX4_remember cX4_remember 1 none, Cond.fieldLink RX4 39 "GorgeRow" "actCount" "I", Cond.fieldLink RX4 35 "GorgeRow" "acts" "[J", Cond.methodLink RX4 158 arraycopyName, Cond.native arraycopyName, Cond.static arraycopyName, Cond.initialized "java/lang/System", Cond.methodLink RX4 164 yX3_state, Cond.instanceMethod yX3_state, Cond.selects RX3 yX3_state yX3_state, Cond.code yX3_state cX3_state 1 (some .long), Cond.fieldLink RX3 15 "GorgeRow$Walk" "quiets" "I", Cond.methodLink RX4 147 yX3_changePlaces, Cond.instanceMethod yX3_changePlaces, Cond.selects RX3 yX3_changePlaces yX3_changePlaces]
def wsX4_change_r3 : List Cond := [Cond.code yX3_changePlaces cX3_changePlaces 2 none, Cond.methodLink RX3 66 yX0_swapped, Cond.static yX0_swapped, Cond.code yX0_swapped cX0_swapped 3 (some .int), Cond.methodLink RX0 15 yX0_with, Cond.static yX0_with, Cond.code yX0_with cX0_with 3 (some .int), Cond.methodLink RX3 49 yX3_walkerAt, Cond.instanceMethod yX3_walkerAt, Cond.selects RX3 yX3_walkerAt yX3_walkerAt, Cond.code yX3_walkerAt cX3_walkerAt 2 (some .int), Cond.methodLink RX3 43 yX0_at, Cond.methodLink RX3 70 yX3_setQuiet, Cond.instanceMethod yX3_setQuiet, Cond.selects RX3 yX3_setQuiet yX3_setQuiet, Cond.code yX3_setQuiet cX3_setQuiet 3 none, Cond.methodLink RX3 106 yX0_with, Cond.methodLink RX4 107 yX3_row, Cond.instanceMethod yX3_row, Cond.selects RX3 yX3_row yX3_row, Cond.code yX3_row cX3_row 1 (some .int), Cond.methodLink RX4 110 yX0_figures, Cond.static yX0_figures, Cond.code yX0_figures cX0_figures 3 (some .int)]
def wsX4_change_r4 : List Cond := [Cond.methodLink RX0 19 yX0_size]
def wsX4_change : List Cond := .code yX4_change cX4_change 2 (some .int) :: ((wsX4_change_r1 ++ (wsX4_change_r2 ++ (wsX4_change_r3 ++ wsX4_change_r4))) ++ wsX40 ++ wsX30 ++ wsX10)
def wsX4_rest_r1 : List Cond := [Cond.fieldLink RX4 28 "GorgeRow" "now" "LGorgeRow$Walk;", Cond.methodLink RX4 116 yX3_isOut, Cond.instanceMethod yX3_isOut, Cond.selects RX3 yX3_isOut yX3_isOut, Cond.initialized RX3, Cond.code yX3_isOut cX3_isOut 1 (some .boolean), Cond.fieldLink RX3 18 "GorgeRow$Walk" "place" "I", Cond.fieldLink RX3 24 "GorgeRow$Walk" "path" "LGorgeRow$Path;", Cond.methodLink RX3 37 yX1_light, Cond.instanceMethod yX1_light, Cond.selects RX1 yX1_light yX1_light, Cond.initialized RX1, Cond.code yX1_light cX1_light 1 (some .int), Cond.fieldLink RX1 13 "GorgeRow$Path" "light" "I", Cond.methodLink RX4 138 yX4_remember, Cond.instanceMethod yX4_remember, Cond.selects RX4 yX4_remember yX4_remember, Cond.initialized RX4, Cond.code yX4_remember cX4_remember 1 none, Cond.fieldLink RX4 39 "GorgeRow" "actCount" "I", Cond.fieldLink RX4 35 "GorgeRow" "acts" "[J", Cond.methodLink RX4 158 arraycopyName, Cond.native arraycopyName, Cond.static arraycopyName]
def wsX4_rest_r2 : List Cond := [Cond.initialized "java/lang/System", Cond.methodLink RX4 164 yX3_state, Cond.instanceMethod yX3_state, Cond.selects RX3 yX3_state yX3_state, Cond.code yX3_state cX3_state 1 (some .long), Cond.fieldLink RX3 15 "GorgeRow$Walk" "quiets" "I", Cond.fieldLink RX3 11 "GorgeRow$Walk" "row" "I", Cond.methodLink RX4 151 yX3_calm, Cond.instanceMethod yX3_calm, Cond.selects RX3 yX3_calm yX3_calm, Cond.code yX3_calm cX3_calm 3 (some .int), Cond.methodLink RX3 47 yX3_size, Cond.instanceMethod yX3_size, Cond.selects RX3 yX3_size yX3_size, Cond.code yX3_size cX3_size 1 (some .int), Cond.methodLink RX3 28 yX0_size, Cond.static yX0_size, Cond.initialized RX0, Cond.code yX0_size cX0_size 2 (some .int), Cond.methodLink RX0 9 yX0_at, Cond.static yX0_at, Cond.code yX0_at cX0_at 2 (some .int), Cond.methodLink RX3 49 yX3_walkerAt, Cond.instanceMethod yX3_walkerAt]
def wsX4_rest_r3 : List Cond := [Cond.selects RX3 yX3_walkerAt yX3_walkerAt, Cond.code yX3_walkerAt cX3_walkerAt 2 (some .int), Cond.methodLink RX3 43 yX0_at, Cond.methodLink RX3 73 yX3_quiet, Cond.instanceMethod yX3_quiet, Cond.selects RX3 yX3_quiet yX3_quiet, Cond.code yX3_quiet cX3_quiet 2 (some .int), Cond.methodLink RX3 70 yX3_setQuiet, Cond.instanceMethod yX3_setQuiet, Cond.selects RX3 yX3_setQuiet yX3_setQuiet, Cond.code yX3_setQuiet cX3_setQuiet 3 none, Cond.methodLink RX3 106 yX0_with, Cond.static yX0_with, Cond.code yX0_with cX0_with 3 (some .int)]
def wsX4_rest : List Cond := .code yX4_rest cX4_rest 1 (some .int) :: ((wsX4_rest_r1 ++ (wsX4_rest_r2 ++ wsX4_rest_r3)) ++ wsX40 ++ wsX30 ++ wsX10)
def wsX4_undo : List Cond := .code yX4_undo cX4_undo 1 (some .int) :: ([.fieldLink RX4 39 "GorgeRow" "actCount" "I", .fieldLink RX4 35 "GorgeRow" "acts" "[J", .fieldLink RX4 28 "GorgeRow" "now" "LGorgeRow$Walk;", .methodLink RX4 61 yX4_within, .static yX4_within, .initialized RX4, .code yX4_within cX4_within 3 (some .boolean), .methodLink RX4 154 yX3_become, .instanceMethod yX3_become, .selects RX3 yX3_become yX3_become, .initialized RX3, .code yX3_become cX3_become 3 none, .constant RX3 65 (1048575), .fieldLink RX3 11 "GorgeRow$Walk" "row" "I", .fieldLink RX3 15 "GorgeRow$Walk" "quiets" "I", .fieldLink RX3 18 "GorgeRow$Walk" "place" "I"] ++ wsX40 ++ wsX30)
def wsX4_isSong : List Cond := .code yX4_isSong cX4_isSong 6 (some .boolean) :: ([.constantLong RX4 209 (100), .constantLong RX4 211 (31), .methodLink RX4 61 yX4_within, .static yX4_within, .initialized RX4, .code yX4_within cX4_within 3 (some .boolean)])
def wsX4_left_r1 : List Cond := [Cond.fieldLink RX4 32 "GorgeRow" "trial" "LGorgeRow$Walk;", Cond.fieldLink RX4 28 "GorgeRow" "now" "LGorgeRow$Walk;", Cond.methodLink RX4 168 yX4_isSong, Cond.static yX4_isSong, Cond.initialized RX4, Cond.code yX4_isSong cX4_isSong 6 (some .boolean), Cond.constantLong RX4 209 (100), Cond.constantLong RX4 211 (31), Cond.methodLink RX4 61 yX4_within, Cond.static yX4_within, Cond.code yX4_within cX4_within 3 (some .boolean), Cond.methodLink RX4 164 yX3_state, Cond.instanceMethod yX3_state, Cond.selects RX3 yX3_state yX3_state, Cond.initialized RX3, Cond.code yX3_state cX3_state 1 (some .long), Cond.fieldLink RX3 18 "GorgeRow$Walk" "place" "I", Cond.fieldLink RX3 15 "GorgeRow$Walk" "quiets" "I", Cond.fieldLink RX3 11 "GorgeRow$Walk" "row" "I", Cond.methodLink RX4 154 yX3_become, Cond.instanceMethod yX3_become, Cond.selects RX3 yX3_become yX3_become, Cond.code yX3_become cX3_become 3 none, Cond.constant RX3 65 (1048575)]
def wsX4_left_r2 : List Cond := [Cond.methodLink RX4 172 yX3_sing, Cond.instanceMethod yX3_sing, Cond.selects RX3 yX3_sing yX3_sing, Cond.code yX3_sing cX3_sing 6 (some .int), Cond.fieldLink RX3 21 "GorgeRow$Walk" "turned" "I", Cond.methodLink RX3 76 yX3_isOut, Cond.instanceMethod yX3_isOut, Cond.selects RX3 yX3_isOut yX3_isOut, Cond.code yX3_isOut cX3_isOut 1 (some .boolean), Cond.fieldLink RX3 24 "GorgeRow$Walk" "path" "LGorgeRow$Path;", Cond.methodLink RX3 37 yX1_light, Cond.instanceMethod yX1_light, Cond.selects RX1 yX1_light yX1_light, Cond.initialized RX1, Cond.code yX1_light cX1_light 1 (some .int), Cond.fieldLink RX1 13 "GorgeRow$Path" "light" "I", Cond.methodLink RX3 80 yX3_treadsOf, Cond.static yX3_treadsOf, Cond.code yX3_treadsOf cX3_treadsOf 6 (some .int), Cond.constantLong RX3 109 (100), Cond.methodLink RX3 84 yX3_step, Cond.instanceMethod yX3_step, Cond.selects RX3 yX3_step yX3_step, Cond.code yX3_step cX3_step 6 (some .int)]
def wsX4_left_r3 : List Cond := [Cond.methodLink RX3 47 yX3_size, Cond.instanceMethod yX3_size, Cond.selects RX3 yX3_size yX3_size, Cond.code yX3_size cX3_size 1 (some .int), Cond.methodLink RX3 28 yX0_size, Cond.static yX0_size, Cond.initialized RX0, Cond.code yX0_size cX0_size 2 (some .int), Cond.methodLink RX0 9 yX0_at, Cond.static yX0_at, Cond.code yX0_at cX0_at 2 (some .int), Cond.methodLink RX3 49 yX3_walkerAt, Cond.instanceMethod yX3_walkerAt, Cond.selects RX3 yX3_walkerAt yX3_walkerAt, Cond.code yX3_walkerAt cX3_walkerAt 2 (some .int), Cond.methodLink RX3 43 yX0_at, Cond.methodLink RX3 87 yX1_kind, Cond.instanceMethod yX1_kind, Cond.selects RX1 yX1_kind yX1_kind, Cond.code yX1_kind cX1_kind 2 (some .int), Cond.fieldLink RX1 22 "GorgeRow$Path" "kinds" "I", Cond.methodLink RX1 53 yX0_at, Cond.methodLink RX3 90 yX3_isHeard, Cond.instanceMethod yX3_isHeard]
def wsX4_left_r4 : List Cond := [Cond.selects RX3 yX3_isHeard yX3_isHeard, Cond.code yX3_isHeard cX3_isHeard 6 (some .boolean), Cond.methodLink RX3 97 yX1_water, Cond.instanceMethod yX1_water, Cond.selects RX1 yX1_water yX1_water, Cond.code yX1_water cX1_water 1 (some .int), Cond.fieldLink RX1 16 "GorgeRow$Path" "water" "I", Cond.methodLink RX3 73 yX3_quiet, Cond.instanceMethod yX3_quiet, Cond.selects RX3 yX3_quiet yX3_quiet, Cond.code yX3_quiet cX3_quiet 2 (some .int), Cond.methodLink RX3 70 yX3_setQuiet, Cond.instanceMethod yX3_setQuiet, Cond.selects RX3 yX3_setQuiet yX3_setQuiet, Cond.code yX3_setQuiet cX3_setQuiet 3 none, Cond.methodLink RX3 106 yX0_with, Cond.static yX0_with, Cond.code yX0_with cX0_with 3 (some .int), Cond.methodLink RX3 94 yX3_turnRound, Cond.instanceMethod yX3_turnRound, Cond.selects RX3 yX3_turnRound yX3_turnRound, Cond.code yX3_turnRound cX3_turnRound 4 (some .int), Cond.methodLink RX3 100 yX1_nerve, Cond.instanceMethod yX1_nerve]
def wsX4_left_r5 : List Cond := [Cond.selects RX1 yX1_nerve yX1_nerve, Cond.code yX1_nerve cX1_nerve 2 (some .int), Cond.fieldLink RX1 19 "GorgeRow$Path" "nerves" "I", Cond.methodLink RX3 103 yX0_without, Cond.static yX0_without, Cond.code yX0_without cX0_without 3 (some .int), Cond.methodLink RX4 101 yX3_members, Cond.instanceMethod yX3_members, Cond.selects RX3 yX3_members yX3_members, Cond.code yX3_members cX3_members 1 (some .int), Cond.methodLink RX3 34 yX0_members, Cond.static yX0_members, Cond.code yX0_members cX0_members 3 (some .int), Cond.methodLink RX0 19 yX0_size]
def wsX4_left : List Cond := .code yX4_left cX4_left 4 (some .int) :: ((wsX4_left_r1 ++ (wsX4_left_r2 ++ (wsX4_left_r3 ++ (wsX4_left_r4 ++ wsX4_left_r5)))) ++ wsX40 ++ wsX30 ++ wsX10)
def wsX4_firstTurn_r1 : List Cond := [Cond.fieldLink RX4 32 "GorgeRow" "trial" "LGorgeRow$Walk;", Cond.fieldLink RX4 28 "GorgeRow" "now" "LGorgeRow$Walk;", Cond.methodLink RX4 168 yX4_isSong, Cond.static yX4_isSong, Cond.initialized RX4, Cond.code yX4_isSong cX4_isSong 6 (some .boolean), Cond.constantLong RX4 209 (100), Cond.constantLong RX4 211 (31), Cond.methodLink RX4 61 yX4_within, Cond.static yX4_within, Cond.code yX4_within cX4_within 3 (some .boolean), Cond.methodLink RX4 164 yX3_state, Cond.instanceMethod yX3_state, Cond.selects RX3 yX3_state yX3_state, Cond.initialized RX3, Cond.code yX3_state cX3_state 1 (some .long), Cond.fieldLink RX3 18 "GorgeRow$Walk" "place" "I", Cond.fieldLink RX3 15 "GorgeRow$Walk" "quiets" "I", Cond.fieldLink RX3 11 "GorgeRow$Walk" "row" "I", Cond.methodLink RX4 154 yX3_become, Cond.instanceMethod yX3_become, Cond.selects RX3 yX3_become yX3_become, Cond.code yX3_become cX3_become 3 none, Cond.constant RX3 65 (1048575)]
def wsX4_firstTurn_r2 : List Cond := [Cond.methodLink RX4 172 yX3_sing, Cond.instanceMethod yX3_sing, Cond.selects RX3 yX3_sing yX3_sing, Cond.code yX3_sing cX3_sing 6 (some .int), Cond.fieldLink RX3 21 "GorgeRow$Walk" "turned" "I", Cond.methodLink RX3 76 yX3_isOut, Cond.instanceMethod yX3_isOut, Cond.selects RX3 yX3_isOut yX3_isOut, Cond.code yX3_isOut cX3_isOut 1 (some .boolean), Cond.fieldLink RX3 24 "GorgeRow$Walk" "path" "LGorgeRow$Path;", Cond.methodLink RX3 37 yX1_light, Cond.instanceMethod yX1_light, Cond.selects RX1 yX1_light yX1_light, Cond.initialized RX1, Cond.code yX1_light cX1_light 1 (some .int), Cond.fieldLink RX1 13 "GorgeRow$Path" "light" "I", Cond.methodLink RX3 80 yX3_treadsOf, Cond.static yX3_treadsOf, Cond.code yX3_treadsOf cX3_treadsOf 6 (some .int), Cond.constantLong RX3 109 (100), Cond.methodLink RX3 84 yX3_step, Cond.instanceMethod yX3_step, Cond.selects RX3 yX3_step yX3_step, Cond.code yX3_step cX3_step 6 (some .int)]
def wsX4_firstTurn_r3 : List Cond := [Cond.methodLink RX3 47 yX3_size, Cond.instanceMethod yX3_size, Cond.selects RX3 yX3_size yX3_size, Cond.code yX3_size cX3_size 1 (some .int), Cond.methodLink RX3 28 yX0_size, Cond.static yX0_size, Cond.initialized RX0, Cond.code yX0_size cX0_size 2 (some .int), Cond.methodLink RX0 9 yX0_at, Cond.static yX0_at, Cond.code yX0_at cX0_at 2 (some .int), Cond.methodLink RX3 49 yX3_walkerAt, Cond.instanceMethod yX3_walkerAt, Cond.selects RX3 yX3_walkerAt yX3_walkerAt, Cond.code yX3_walkerAt cX3_walkerAt 2 (some .int), Cond.methodLink RX3 43 yX0_at, Cond.methodLink RX3 87 yX1_kind, Cond.instanceMethod yX1_kind, Cond.selects RX1 yX1_kind yX1_kind, Cond.code yX1_kind cX1_kind 2 (some .int), Cond.fieldLink RX1 22 "GorgeRow$Path" "kinds" "I", Cond.methodLink RX1 53 yX0_at, Cond.methodLink RX3 90 yX3_isHeard, Cond.instanceMethod yX3_isHeard]
def wsX4_firstTurn_r4 : List Cond := [Cond.selects RX3 yX3_isHeard yX3_isHeard, Cond.code yX3_isHeard cX3_isHeard 6 (some .boolean), Cond.methodLink RX3 97 yX1_water, Cond.instanceMethod yX1_water, Cond.selects RX1 yX1_water yX1_water, Cond.code yX1_water cX1_water 1 (some .int), Cond.fieldLink RX1 16 "GorgeRow$Path" "water" "I", Cond.methodLink RX3 73 yX3_quiet, Cond.instanceMethod yX3_quiet, Cond.selects RX3 yX3_quiet yX3_quiet, Cond.code yX3_quiet cX3_quiet 2 (some .int), Cond.methodLink RX3 70 yX3_setQuiet, Cond.instanceMethod yX3_setQuiet, Cond.selects RX3 yX3_setQuiet yX3_setQuiet, Cond.code yX3_setQuiet cX3_setQuiet 3 none, Cond.methodLink RX3 106 yX0_with, Cond.static yX0_with, Cond.code yX0_with cX0_with 3 (some .int), Cond.methodLink RX3 94 yX3_turnRound, Cond.instanceMethod yX3_turnRound, Cond.selects RX3 yX3_turnRound yX3_turnRound, Cond.code yX3_turnRound cX3_turnRound 4 (some .int), Cond.methodLink RX3 100 yX1_nerve, Cond.instanceMethod yX1_nerve]
def wsX4_firstTurn_r5 : List Cond := [Cond.selects RX1 yX1_nerve yX1_nerve, Cond.code yX1_nerve cX1_nerve 2 (some .int), Cond.fieldLink RX1 19 "GorgeRow$Path" "nerves" "I", Cond.methodLink RX3 103 yX0_without, Cond.static yX0_without, Cond.code yX0_without cX0_without 3 (some .int)]
def wsX4_firstTurn : List Cond := .code yX4_firstTurn cX4_firstTurn 4 (some .int) :: ((wsX4_firstTurn_r1 ++ (wsX4_firstTurn_r2 ++ (wsX4_firstTurn_r3 ++ (wsX4_firstTurn_r4 ++ wsX4_firstTurn_r5)))) ++ wsX40 ++ wsX30 ++ wsX10)
def wsX4_leftOf_r1 : List Cond := [Cond.fieldLink RX4 32 "GorgeRow" "trial" "LGorgeRow$Walk;", Cond.fieldLink RX4 28 "GorgeRow" "now" "LGorgeRow$Walk;", Cond.methodLink RX4 98 yX3_place, Cond.instanceMethod yX3_place, Cond.selects RX3 yX3_place yX3_place, Cond.initialized RX3, Cond.code yX3_place cX3_place 1 (some .int), Cond.fieldLink RX3 18 "GorgeRow$Walk" "place" "I", Cond.methodLink RX4 205 yX3_lineUp, Cond.instanceMethod yX3_lineUp, Cond.selects RX3 yX3_lineUp yX3_lineUp, Cond.code yX3_lineUp cX3_lineUp 3 none, Cond.fieldLink RX3 11 "GorgeRow$Walk" "row" "I", Cond.fieldLink RX3 15 "GorgeRow$Walk" "quiets" "I", Cond.methodLink RX4 172 yX3_sing, Cond.instanceMethod yX3_sing, Cond.selects RX3 yX3_sing yX3_sing, Cond.code yX3_sing cX3_sing 6 (some .int), Cond.fieldLink RX3 21 "GorgeRow$Walk" "turned" "I", Cond.methodLink RX3 76 yX3_isOut, Cond.instanceMethod yX3_isOut, Cond.selects RX3 yX3_isOut yX3_isOut, Cond.code yX3_isOut cX3_isOut 1 (some .boolean), Cond.fieldLink RX3 24 "GorgeRow$Walk" "path" "LGorgeRow$Path;"]
def wsX4_leftOf_r2 : List Cond := [Cond.methodLink RX3 37 yX1_light, Cond.instanceMethod yX1_light, Cond.selects RX1 yX1_light yX1_light, Cond.initialized RX1, Cond.code yX1_light cX1_light 1 (some .int), Cond.fieldLink RX1 13 "GorgeRow$Path" "light" "I", Cond.methodLink RX3 80 yX3_treadsOf, Cond.static yX3_treadsOf, Cond.code yX3_treadsOf cX3_treadsOf 6 (some .int), Cond.constantLong RX3 109 (100), Cond.methodLink RX3 84 yX3_step, Cond.instanceMethod yX3_step, Cond.selects RX3 yX3_step yX3_step, Cond.code yX3_step cX3_step 6 (some .int), Cond.methodLink RX3 47 yX3_size, Cond.instanceMethod yX3_size, Cond.selects RX3 yX3_size yX3_size, Cond.code yX3_size cX3_size 1 (some .int), Cond.methodLink RX3 28 yX0_size, Cond.static yX0_size, Cond.initialized RX0, Cond.code yX0_size cX0_size 2 (some .int), Cond.methodLink RX0 9 yX0_at, Cond.static yX0_at]
def wsX4_leftOf_r3 : List Cond := [Cond.code yX0_at cX0_at 2 (some .int), Cond.methodLink RX3 49 yX3_walkerAt, Cond.instanceMethod yX3_walkerAt, Cond.selects RX3 yX3_walkerAt yX3_walkerAt, Cond.code yX3_walkerAt cX3_walkerAt 2 (some .int), Cond.methodLink RX3 43 yX0_at, Cond.methodLink RX3 87 yX1_kind, Cond.instanceMethod yX1_kind, Cond.selects RX1 yX1_kind yX1_kind, Cond.code yX1_kind cX1_kind 2 (some .int), Cond.fieldLink RX1 22 "GorgeRow$Path" "kinds" "I", Cond.methodLink RX1 53 yX0_at, Cond.methodLink RX3 90 yX3_isHeard, Cond.instanceMethod yX3_isHeard, Cond.selects RX3 yX3_isHeard yX3_isHeard, Cond.code yX3_isHeard cX3_isHeard 6 (some .boolean), Cond.methodLink RX3 97 yX1_water, Cond.instanceMethod yX1_water, Cond.selects RX1 yX1_water yX1_water, Cond.code yX1_water cX1_water 1 (some .int), Cond.fieldLink RX1 16 "GorgeRow$Path" "water" "I", Cond.methodLink RX3 73 yX3_quiet, Cond.instanceMethod yX3_quiet, Cond.selects RX3 yX3_quiet yX3_quiet]
def wsX4_leftOf_r4 : List Cond := [Cond.code yX3_quiet cX3_quiet 2 (some .int), Cond.methodLink RX3 70 yX3_setQuiet, Cond.instanceMethod yX3_setQuiet, Cond.selects RX3 yX3_setQuiet yX3_setQuiet, Cond.code yX3_setQuiet cX3_setQuiet 3 none, Cond.methodLink RX3 106 yX0_with, Cond.static yX0_with, Cond.code yX0_with cX0_with 3 (some .int), Cond.methodLink RX3 94 yX3_turnRound, Cond.instanceMethod yX3_turnRound, Cond.selects RX3 yX3_turnRound yX3_turnRound, Cond.code yX3_turnRound cX3_turnRound 4 (some .int), Cond.methodLink RX3 100 yX1_nerve, Cond.instanceMethod yX1_nerve, Cond.selects RX1 yX1_nerve yX1_nerve, Cond.code yX1_nerve cX1_nerve 2 (some .int), Cond.fieldLink RX1 19 "GorgeRow$Path" "nerves" "I", Cond.methodLink RX3 103 yX0_without, Cond.static yX0_without, Cond.code yX0_without cX0_without 3 (some .int), Cond.methodLink RX4 144 yX3_size]
def wsX4_leftOf : List Cond := .code yX4_leftOf cX4_leftOf 5 (some .int) :: ((wsX4_leftOf_r1 ++ (wsX4_leftOf_r2 ++ (wsX4_leftOf_r3 ++ wsX4_leftOf_r4))) ++ wsX40 ++ wsX30 ++ wsX10)
def wsX4_order_r1 : List Cond := [Cond.fieldLink RX4 28 "GorgeRow" "now" "LGorgeRow$Walk;", Cond.methodLink RX4 168 yX4_isSong, Cond.static yX4_isSong, Cond.initialized RX4, Cond.code yX4_isSong cX4_isSong 6 (some .boolean), Cond.constantLong RX4 209 (100), Cond.constantLong RX4 211 (31), Cond.methodLink RX4 61 yX4_within, Cond.static yX4_within, Cond.code yX4_within cX4_within 3 (some .boolean), Cond.methodLink RX4 101 yX3_members, Cond.instanceMethod yX3_members, Cond.selects RX3 yX3_members yX3_members, Cond.initialized RX3, Cond.code yX3_members cX3_members 1 (some .int), Cond.fieldLink RX3 11 "GorgeRow$Walk" "row" "I", Cond.methodLink RX3 34 yX0_members, Cond.static yX0_members, Cond.initialized RX0, Cond.code yX0_members cX0_members 3 (some .int), Cond.methodLink RX0 19 yX0_size, Cond.static yX0_size, Cond.code yX0_size cX0_size 2 (some .int), Cond.methodLink RX0 9 yX0_at]
def wsX4_order_r2 : List Cond := [Cond.static yX0_at, Cond.code yX0_at cX0_at 2 (some .int), Cond.methodLink RX4 176 yX0_ascending, Cond.static yX0_ascending, Cond.code yX0_ascending cX0_ascending 4 (some .int), Cond.methodLink RX0 15 yX0_with, Cond.static yX0_with, Cond.code yX0_with cX0_with 3 (some .int), Cond.methodLink RX4 179 yX4_leftOf, Cond.instanceMethod yX4_leftOf, Cond.selects RX4 yX4_leftOf yX4_leftOf, Cond.code yX4_leftOf cX4_leftOf 5 (some .int), Cond.fieldLink RX4 32 "GorgeRow" "trial" "LGorgeRow$Walk;", Cond.methodLink RX4 98 yX3_place, Cond.instanceMethod yX3_place, Cond.selects RX3 yX3_place yX3_place, Cond.code yX3_place cX3_place 1 (some .int), Cond.fieldLink RX3 18 "GorgeRow$Walk" "place" "I", Cond.methodLink RX4 205 yX3_lineUp, Cond.instanceMethod yX3_lineUp, Cond.selects RX3 yX3_lineUp yX3_lineUp, Cond.code yX3_lineUp cX3_lineUp 3 none, Cond.fieldLink RX3 15 "GorgeRow$Walk" "quiets" "I", Cond.methodLink RX4 172 yX3_sing]
def wsX4_order_r3 : List Cond := [Cond.instanceMethod yX3_sing, Cond.selects RX3 yX3_sing yX3_sing, Cond.code yX3_sing cX3_sing 6 (some .int), Cond.fieldLink RX3 21 "GorgeRow$Walk" "turned" "I", Cond.methodLink RX3 76 yX3_isOut, Cond.instanceMethod yX3_isOut, Cond.selects RX3 yX3_isOut yX3_isOut, Cond.code yX3_isOut cX3_isOut 1 (some .boolean), Cond.fieldLink RX3 24 "GorgeRow$Walk" "path" "LGorgeRow$Path;", Cond.methodLink RX3 37 yX1_light, Cond.instanceMethod yX1_light, Cond.selects RX1 yX1_light yX1_light, Cond.initialized RX1, Cond.code yX1_light cX1_light 1 (some .int), Cond.fieldLink RX1 13 "GorgeRow$Path" "light" "I", Cond.methodLink RX3 80 yX3_treadsOf, Cond.static yX3_treadsOf, Cond.code yX3_treadsOf cX3_treadsOf 6 (some .int), Cond.constantLong RX3 109 (100), Cond.methodLink RX3 84 yX3_step, Cond.instanceMethod yX3_step, Cond.selects RX3 yX3_step yX3_step, Cond.code yX3_step cX3_step 6 (some .int), Cond.methodLink RX3 47 yX3_size]
def wsX4_order_r4 : List Cond := [Cond.instanceMethod yX3_size, Cond.selects RX3 yX3_size yX3_size, Cond.code yX3_size cX3_size 1 (some .int), Cond.methodLink RX3 28 yX0_size, Cond.methodLink RX3 49 yX3_walkerAt, Cond.instanceMethod yX3_walkerAt, Cond.selects RX3 yX3_walkerAt yX3_walkerAt, Cond.code yX3_walkerAt cX3_walkerAt 2 (some .int), Cond.methodLink RX3 43 yX0_at, Cond.methodLink RX3 87 yX1_kind, Cond.instanceMethod yX1_kind, Cond.selects RX1 yX1_kind yX1_kind, Cond.code yX1_kind cX1_kind 2 (some .int), Cond.fieldLink RX1 22 "GorgeRow$Path" "kinds" "I", Cond.methodLink RX1 53 yX0_at, Cond.methodLink RX3 90 yX3_isHeard, Cond.instanceMethod yX3_isHeard, Cond.selects RX3 yX3_isHeard yX3_isHeard, Cond.code yX3_isHeard cX3_isHeard 6 (some .boolean), Cond.methodLink RX3 97 yX1_water, Cond.instanceMethod yX1_water, Cond.selects RX1 yX1_water yX1_water, Cond.code yX1_water cX1_water 1 (some .int), Cond.fieldLink RX1 16 "GorgeRow$Path" "water" "I"]
def wsX4_order_r5 : List Cond := [Cond.methodLink RX3 73 yX3_quiet, Cond.instanceMethod yX3_quiet, Cond.selects RX3 yX3_quiet yX3_quiet, Cond.code yX3_quiet cX3_quiet 2 (some .int), Cond.methodLink RX3 70 yX3_setQuiet, Cond.instanceMethod yX3_setQuiet, Cond.selects RX3 yX3_setQuiet yX3_setQuiet, Cond.code yX3_setQuiet cX3_setQuiet 3 none, Cond.methodLink RX3 106 yX0_with, Cond.methodLink RX3 94 yX3_turnRound, Cond.instanceMethod yX3_turnRound, Cond.selects RX3 yX3_turnRound yX3_turnRound, Cond.code yX3_turnRound cX3_turnRound 4 (some .int), Cond.methodLink RX3 100 yX1_nerve, Cond.instanceMethod yX1_nerve, Cond.selects RX1 yX1_nerve yX1_nerve, Cond.code yX1_nerve cX1_nerve 2 (some .int), Cond.fieldLink RX1 19 "GorgeRow$Path" "nerves" "I", Cond.methodLink RX3 103 yX0_without, Cond.static yX0_without, Cond.code yX0_without cX0_without 3 (some .int), Cond.methodLink RX4 144 yX3_size, Cond.methodLink RX4 183 yX0_nextOrder, Cond.static yX0_nextOrder]
def wsX4_order_r6 : List Cond := [Cond.code yX0_nextOrder cX0_nextOrder 7 (some .int), Cond.methodLink RX0 26 yX0_swapped, Cond.static yX0_swapped, Cond.code yX0_swapped cX0_swapped 3 (some .int), Cond.methodLink RX4 110 yX0_figures, Cond.static yX0_figures, Cond.code yX0_figures cX0_figures 3 (some .int)]
def wsX4_order : List Cond := .code yX4_order cX4_order 10 (some .int) :: ((wsX4_order_r1 ++ (wsX4_order_r2 ++ (wsX4_order_r3 ++ (wsX4_order_r4 ++ (wsX4_order_r5 ++ wsX4_order_r6))))) ++ wsX40 ++ wsX30 ++ wsX10)
def wsX4_commonDivisor : List Cond := .code yX4_commonDivisor cX4_commonDivisor 11 (some .long) :: ([])
def wsX4_fraction : List Cond := .code yX4_fraction cX4_fraction 7 (some .int) :: ([.methodLink RX4 234 Lib.MathLoose.abs_long.x, .static Lib.MathLoose.abs_long.x, .initialized "java/lang/Math", .code Lib.MathLoose.abs_long.x Lib.MathLoose.abs_long.code 2 (some .long), .methodLink RX4 238 yX4_commonDivisor, .static yX4_commonDivisor, .initialized RX4, .code yX4_commonDivisor cX4_commonDivisor 11 (some .long)])
def wsJ6_bitCount_0f7a4 : List Cond := .code yJ6_bitCount_0f7a4 cJ6_bitCount_0f7a4 1 (some .int) :: ([.constant RJ6 265 (1431655765), .constant RJ6 266 (858993459), .constant RJ6 267 (252645135)])
def wsX4_factorial : List Cond := .code yX4_factorial cX4_factorial 3 (some .int) :: ([])
def wsX4_share_r1 : List Cond := [Cond.fieldLink RX4 19 "GorgeRow" "path" "LGorgeRow$Path;", Cond.fieldLink RX4 28 "GorgeRow" "now" "LGorgeRow$Walk;", Cond.methodLink RX4 120 yX1_has, Cond.instanceMethod yX1_has, Cond.selects RX1 yX1_has yX1_has, Cond.initialized RX1, Cond.code yX1_has cX1_has 2 (some .boolean), Cond.fieldLink RX1 7 "GorgeRow$Path" "walkers" "I", Cond.static yX4_within, Cond.initialized RX4, Cond.code yX4_within cX4_within 3 (some .boolean), Cond.methodLink RX4 168 yX4_isSong, Cond.static yX4_isSong, Cond.code yX4_isSong cX4_isSong 6 (some .boolean), Cond.constantLong RX4 209 (100), Cond.constantLong RX4 211 (31), Cond.methodLink RX4 61 yX4_within, Cond.methodLink RX4 107 yX3_row, Cond.instanceMethod yX3_row, Cond.selects RX3 yX3_row yX3_row, Cond.initialized RX3, Cond.code yX3_row cX3_row 1 (some .int), Cond.fieldLink RX3 11 "GorgeRow$Walk" "row" "I", Cond.methodLink RX4 101 yX3_members]
def wsX4_share_r2 : List Cond := [Cond.instanceMethod yX3_members, Cond.selects RX3 yX3_members yX3_members, Cond.code yX3_members cX3_members 1 (some .int), Cond.methodLink RX3 34 yX0_members, Cond.static yX0_members, Cond.initialized RX0, Cond.code yX0_members cX0_members 3 (some .int), Cond.methodLink RX0 19 yX0_size, Cond.static yX0_size, Cond.code yX0_size cX0_size 2 (some .int), Cond.methodLink RX0 9 yX0_at, Cond.static yX0_at, Cond.code yX0_at cX0_at 2 (some .int), Cond.methodLink RX4 186 yX4_fraction, Cond.static yX4_fraction, Cond.code yX4_fraction cX4_fraction 7 (some .int), Cond.methodLink RX4 234 Lib.MathLoose.abs_long.x, Cond.static Lib.MathLoose.abs_long.x, Cond.initialized "java/lang/Math", Cond.code Lib.MathLoose.abs_long.x Lib.MathLoose.abs_long.code 2 (some .long), Cond.methodLink RX4 238 yX4_commonDivisor, Cond.static yX4_commonDivisor, Cond.code yX4_commonDivisor cX4_commonDivisor 11 (some .long), Cond.methodLink RX4 144 yX3_size]
def wsX4_share_r3 : List Cond := [Cond.instanceMethod yX3_size, Cond.selects RX3 yX3_size yX3_size, Cond.code yX3_size cX3_size 1 (some .int), Cond.methodLink RX3 28 yX0_size, Cond.methodLink RX4 190 yJ6_bitCount_0f7a4, Cond.static yJ6_bitCount_0f7a4, Cond.initialized RJ6, Cond.code yJ6_bitCount_0f7a4 cJ6_bitCount_0f7a4 1 (some .int), Cond.constant RJ6 265 (1431655765), Cond.constant RJ6 266 (858993459), Cond.constant RJ6 267 (252645135), Cond.methodLink RX4 195 yX0_only, Cond.static yX0_only, Cond.code yX0_only cX0_only 4 (some .int), Cond.methodLink RX0 23 yX0_without, Cond.static yX0_without, Cond.code yX0_without cX0_without 3 (some .int), Cond.methodLink RX4 179 yX4_leftOf, Cond.instanceMethod yX4_leftOf, Cond.selects RX4 yX4_leftOf yX4_leftOf, Cond.code yX4_leftOf cX4_leftOf 5 (some .int), Cond.fieldLink RX4 32 "GorgeRow" "trial" "LGorgeRow$Walk;", Cond.methodLink RX4 98 yX3_place, Cond.instanceMethod yX3_place]
def wsX4_share_r4 : List Cond := [Cond.selects RX3 yX3_place yX3_place, Cond.code yX3_place cX3_place 1 (some .int), Cond.fieldLink RX3 18 "GorgeRow$Walk" "place" "I", Cond.methodLink RX4 205 yX3_lineUp, Cond.instanceMethod yX3_lineUp, Cond.selects RX3 yX3_lineUp yX3_lineUp, Cond.code yX3_lineUp cX3_lineUp 3 none, Cond.fieldLink RX3 15 "GorgeRow$Walk" "quiets" "I", Cond.methodLink RX4 172 yX3_sing, Cond.instanceMethod yX3_sing, Cond.selects RX3 yX3_sing yX3_sing, Cond.code yX3_sing cX3_sing 6 (some .int), Cond.fieldLink RX3 21 "GorgeRow$Walk" "turned" "I", Cond.methodLink RX3 76 yX3_isOut, Cond.instanceMethod yX3_isOut, Cond.selects RX3 yX3_isOut yX3_isOut, Cond.code yX3_isOut cX3_isOut 1 (some .boolean), Cond.fieldLink RX3 24 "GorgeRow$Walk" "path" "LGorgeRow$Path;", Cond.methodLink RX3 37 yX1_light, Cond.instanceMethod yX1_light, Cond.selects RX1 yX1_light yX1_light, Cond.code yX1_light cX1_light 1 (some .int), Cond.fieldLink RX1 13 "GorgeRow$Path" "light" "I", Cond.methodLink RX3 80 yX3_treadsOf]
def wsX4_share_r5 : List Cond := [Cond.static yX3_treadsOf, Cond.code yX3_treadsOf cX3_treadsOf 6 (some .int), Cond.constantLong RX3 109 (100), Cond.methodLink RX3 84 yX3_step, Cond.instanceMethod yX3_step, Cond.selects RX3 yX3_step yX3_step, Cond.code yX3_step cX3_step 6 (some .int), Cond.methodLink RX3 47 yX3_size, Cond.methodLink RX3 49 yX3_walkerAt, Cond.instanceMethod yX3_walkerAt, Cond.selects RX3 yX3_walkerAt yX3_walkerAt, Cond.code yX3_walkerAt cX3_walkerAt 2 (some .int), Cond.methodLink RX3 43 yX0_at, Cond.methodLink RX3 87 yX1_kind, Cond.instanceMethod yX1_kind, Cond.selects RX1 yX1_kind yX1_kind, Cond.code yX1_kind cX1_kind 2 (some .int), Cond.fieldLink RX1 22 "GorgeRow$Path" "kinds" "I", Cond.methodLink RX1 53 yX0_at, Cond.methodLink RX3 90 yX3_isHeard, Cond.instanceMethod yX3_isHeard, Cond.selects RX3 yX3_isHeard yX3_isHeard, Cond.code yX3_isHeard cX3_isHeard 6 (some .boolean), Cond.methodLink RX3 97 yX1_water]
def wsX4_share_r6 : List Cond := [Cond.instanceMethod yX1_water, Cond.selects RX1 yX1_water yX1_water, Cond.code yX1_water cX1_water 1 (some .int), Cond.fieldLink RX1 16 "GorgeRow$Path" "water" "I", Cond.methodLink RX3 73 yX3_quiet, Cond.instanceMethod yX3_quiet, Cond.selects RX3 yX3_quiet yX3_quiet, Cond.code yX3_quiet cX3_quiet 2 (some .int), Cond.methodLink RX3 70 yX3_setQuiet, Cond.instanceMethod yX3_setQuiet, Cond.selects RX3 yX3_setQuiet yX3_setQuiet, Cond.code yX3_setQuiet cX3_setQuiet 3 none, Cond.methodLink RX3 106 yX0_with, Cond.static yX0_with, Cond.code yX0_with cX0_with 3 (some .int), Cond.methodLink RX3 94 yX3_turnRound, Cond.instanceMethod yX3_turnRound, Cond.selects RX3 yX3_turnRound yX3_turnRound, Cond.code yX3_turnRound cX3_turnRound 4 (some .int), Cond.methodLink RX3 100 yX1_nerve, Cond.instanceMethod yX1_nerve, Cond.selects RX1 yX1_nerve yX1_nerve, Cond.code yX1_nerve cX1_nerve 2 (some .int), Cond.fieldLink RX1 19 "GorgeRow$Path" "nerves" "I"]
def wsX4_share_r7 : List Cond := [Cond.methodLink RX3 103 yX0_without, Cond.methodLink RX4 199 yX4_factorial, Cond.static yX4_factorial, Cond.code yX4_factorial cX4_factorial 3 (some .int)]
def wsX4_share : List Cond := .code yX4_share cX4_share 14 (some .int) :: ((wsX4_share_r1 ++ (wsX4_share_r2 ++ (wsX4_share_r3 ++ (wsX4_share_r4 ++ (wsX4_share_r5 ++ (wsX4_share_r6 ++ wsX4_share_r7)))))) ++ wsX40 ++ wsX10 ++ wsX30)
def wsX4_bears_r1 : List Cond := [Cond.fieldLink RX4 19 "GorgeRow" "path" "LGorgeRow$Path;", Cond.fieldLink RX4 28 "GorgeRow" "now" "LGorgeRow$Walk;", Cond.fieldLink RX4 32 "GorgeRow" "trial" "LGorgeRow$Walk;", Cond.methodLink RX4 120 yX1_has, Cond.instanceMethod yX1_has, Cond.selects RX1 yX1_has yX1_has, Cond.initialized RX1, Cond.code yX1_has cX1_has 2 (some .boolean), Cond.fieldLink RX1 7 "GorgeRow$Path" "walkers" "I", Cond.static yX4_within, Cond.initialized RX4, Cond.code yX4_within cX4_within 3 (some .boolean), Cond.methodLink RX4 132 yX3_indexOf, Cond.instanceMethod yX3_indexOf, Cond.selects RX3 yX3_indexOf yX3_indexOf, Cond.initialized RX3, Cond.code yX3_indexOf cX3_indexOf 3 (some .int), Cond.methodLink RX3 47 yX3_size, Cond.instanceMethod yX3_size, Cond.selects RX3 yX3_size yX3_size, Cond.code yX3_size cX3_size 1 (some .int), Cond.fieldLink RX3 11 "GorgeRow$Walk" "row" "I", Cond.methodLink RX3 28 yX0_size, Cond.static yX0_size]
def wsX4_bears_r2 : List Cond := [Cond.initialized RX0, Cond.code yX0_size cX0_size 2 (some .int), Cond.methodLink RX0 9 yX0_at, Cond.static yX0_at, Cond.code yX0_at cX0_at 2 (some .int), Cond.methodLink RX3 49 yX3_walkerAt, Cond.instanceMethod yX3_walkerAt, Cond.selects RX3 yX3_walkerAt yX3_walkerAt, Cond.code yX3_walkerAt cX3_walkerAt 2 (some .int), Cond.methodLink RX3 43 yX0_at, Cond.methodLink RX4 164 yX3_state, Cond.instanceMethod yX3_state, Cond.selects RX3 yX3_state yX3_state, Cond.code yX3_state cX3_state 1 (some .long), Cond.fieldLink RX3 18 "GorgeRow$Walk" "place" "I", Cond.fieldLink RX3 15 "GorgeRow$Walk" "quiets" "I", Cond.methodLink RX4 154 yX3_become, Cond.instanceMethod yX3_become, Cond.selects RX3 yX3_become yX3_become, Cond.code yX3_become cX3_become 3 none, Cond.constant RX3 65 (1048575), Cond.methodLink RX4 92 yX1_light, Cond.instanceMethod yX1_light, Cond.selects RX1 yX1_light yX1_light]
def wsX4_bears_r3 : List Cond := [Cond.code yX1_light cX1_light 1 (some .int), Cond.fieldLink RX1 13 "GorgeRow$Path" "light" "I", Cond.methodLink RX4 98 yX3_place, Cond.instanceMethod yX3_place, Cond.selects RX3 yX3_place yX3_place, Cond.code yX3_place cX3_place 1 (some .int), Cond.methodLink RX4 141 yX3_step, Cond.instanceMethod yX3_step, Cond.selects RX3 yX3_step yX3_step, Cond.code yX3_step cX3_step 6 (some .int), Cond.fieldLink RX3 24 "GorgeRow$Walk" "path" "LGorgeRow$Path;", Cond.methodLink RX3 87 yX1_kind, Cond.instanceMethod yX1_kind, Cond.selects RX1 yX1_kind yX1_kind, Cond.code yX1_kind cX1_kind 2 (some .int), Cond.fieldLink RX1 22 "GorgeRow$Path" "kinds" "I", Cond.methodLink RX1 53 yX0_at, Cond.methodLink RX3 90 yX3_isHeard, Cond.instanceMethod yX3_isHeard, Cond.selects RX3 yX3_isHeard yX3_isHeard, Cond.code yX3_isHeard cX3_isHeard 6 (some .boolean), Cond.methodLink RX3 97 yX1_water, Cond.instanceMethod yX1_water, Cond.selects RX1 yX1_water yX1_water]
def wsX4_bears_r4 : List Cond := [Cond.code yX1_water cX1_water 1 (some .int), Cond.fieldLink RX1 16 "GorgeRow$Path" "water" "I", Cond.methodLink RX3 73 yX3_quiet, Cond.instanceMethod yX3_quiet, Cond.selects RX3 yX3_quiet yX3_quiet, Cond.code yX3_quiet cX3_quiet 2 (some .int), Cond.methodLink RX3 70 yX3_setQuiet, Cond.instanceMethod yX3_setQuiet, Cond.selects RX3 yX3_setQuiet yX3_setQuiet, Cond.code yX3_setQuiet cX3_setQuiet 3 none, Cond.methodLink RX3 106 yX0_with, Cond.static yX0_with, Cond.code yX0_with cX0_with 3 (some .int), Cond.methodLink RX3 94 yX3_turnRound, Cond.instanceMethod yX3_turnRound, Cond.selects RX3 yX3_turnRound yX3_turnRound, Cond.code yX3_turnRound cX3_turnRound 4 (some .int), Cond.fieldLink RX3 21 "GorgeRow$Walk" "turned" "I", Cond.methodLink RX3 100 yX1_nerve, Cond.instanceMethod yX1_nerve, Cond.selects RX1 yX1_nerve yX1_nerve, Cond.code yX1_nerve cX1_nerve 2 (some .int), Cond.fieldLink RX1 19 "GorgeRow$Path" "nerves" "I", Cond.methodLink RX3 103 yX0_without]
def wsX4_bears_r5 : List Cond := [Cond.static yX0_without, Cond.code yX0_without cX0_without 3 (some .int), Cond.methodLink RX4 202 yX3_turned, Cond.instanceMethod yX3_turned, Cond.selects RX3 yX3_turned yX3_turned, Cond.code yX3_turned cX3_turned 1 (some .int)]
def wsX4_bears : List Cond := .code yX4_bears cX4_bears 4 (some .int) :: ((wsX4_bears_r1 ++ (wsX4_bears_r2 ++ (wsX4_bears_r3 ++ (wsX4_bears_r4 ++ wsX4_bears_r5)))) ++ wsX40 ++ wsX10 ++ wsX30)
def wsX4_isTenths : List Cond := .code yX4_isTenths cX4_isTenths 1 (some .boolean) :: ([.methodLink RX4 61 yX4_within, .static yX4_within, .initialized RX4, .code yX4_within cX4_within 3 (some .boolean)])
def wsX4_still : List Cond := .code yX4_still cX4_still 12 (some .int) :: ([.constantLong RX4 209 (100), .constantLong RX4 216 (10), .methodLink RX4 61 yX4_within, .static yX4_within, .initialized RX4, .code yX4_within cX4_within 3 (some .boolean), .methodLink RX4 213 yX4_isTenths, .static yX4_isTenths, .code yX4_isTenths cX4_isTenths 1 (some .boolean), .methodLink RX4 186 yX4_fraction, .static yX4_fraction, .code yX4_fraction cX4_fraction 7 (some .int), .methodLink RX4 234 Lib.MathLoose.abs_long.x, .static Lib.MathLoose.abs_long.x, .initialized "java/lang/Math", .code Lib.MathLoose.abs_long.x Lib.MathLoose.abs_long.code 2 (some .long), .methodLink RX4 238 yX4_commonDivisor, .static yX4_commonDivisor, .code yX4_commonDivisor cX4_commonDivisor 11 (some .long)])
def wsX4_pebbles : List Cond := .code yX4_pebbles cX4_pebbles 6 (some .int) :: ([.methodLink RX4 61 yX4_within, .static yX4_within, .initialized RX4, .code yX4_within cX4_within 3 (some .boolean)])
def wsX4_tell : List Cond := .code yX4_tell cX4_tell 3 (some .int) :: ([.fieldLink RX4 54 "GorgeRow" "toldCount" "I", .fieldLink RX4 48 "GorgeRow" "heardMinutes" "I", .fieldLink RX4 51 "GorgeRow" "silentMinutes" "I", .methodLink RX4 61 yX4_within, .static yX4_within, .initialized RX4, .code yX4_within cX4_within 3 (some .boolean)] ++ wsX40)
def wsX4_untell : List Cond := .code yX4_untell cX4_untell 2 (some .int) :: ([.fieldLink RX4 54 "GorgeRow" "toldCount" "I", .fieldLink RX4 48 "GorgeRow" "heardMinutes" "I", .fieldLink RX4 51 "GorgeRow" "silentMinutes" "I"] ++ wsX40)
def wsX4_letGo : List Cond := .code yX4_letGo cX4_letGo 7 (some .int) :: ([.fieldLink RX4 48 "GorgeRow" "heardMinutes" "I", .fieldLink RX4 51 "GorgeRow" "silentMinutes" "I"] ++ wsX40)
def wsX4_longestSilence : List Cond := .code yX4_longestSilence cX4_longestSilence 5 (some .int) :: ([.methodLink RX4 229 Lib.Math.max.name, .static Lib.Math.max.name, .initialized "java/lang/Math", .code Lib.Math.max.name Lib.Math.max.code 2 (some .int)])
def wsX4_power : List Cond := .code yX4_power cX4_power 5 (some .long) :: ([])
def wsX4_link_r1 : List Cond := [Cond.methodLink RX4 61 yX4_within, Cond.static yX4_within, Cond.initialized RX4, Cond.code yX4_within cX4_within 3 (some .boolean), Cond.methodLink RX4 213 yX4_isTenths, Cond.static yX4_isTenths, Cond.code yX4_isTenths cX4_isTenths 1 (some .boolean), Cond.methodLink RX4 218 yX4_longestSilence, Cond.static yX4_longestSilence, Cond.code yX4_longestSilence cX4_longestSilence 5 (some .int), Cond.methodLink RX4 229 Lib.Math.max.name, Cond.static Lib.Math.max.name, Cond.initialized "java/lang/Math", Cond.code Lib.Math.max.name Lib.Math.max.code 2 (some .int), Cond.methodLink RX4 190 yJ6_bitCount_0f7a4, Cond.static yJ6_bitCount_0f7a4, Cond.initialized RJ6, Cond.code yJ6_bitCount_0f7a4 cJ6_bitCount_0f7a4 1 (some .int), Cond.constant RJ6 265 (1431655765), Cond.constant RJ6 266 (858993459), Cond.constant RJ6 267 (252645135), Cond.methodLink RX4 221 yX4_power, Cond.static yX4_power, Cond.code yX4_power cX4_power 5 (some .long)]
def wsX4_link_r2 : List Cond := [Cond.methodLink RX4 186 yX4_fraction, Cond.static yX4_fraction, Cond.code yX4_fraction cX4_fraction 7 (some .int), Cond.methodLink RX4 234 Lib.MathLoose.abs_long.x, Cond.static Lib.MathLoose.abs_long.x, Cond.code Lib.MathLoose.abs_long.x Lib.MathLoose.abs_long.code 2 (some .long), Cond.methodLink RX4 238 yX4_commonDivisor, Cond.static yX4_commonDivisor, Cond.code yX4_commonDivisor cX4_commonDivisor 11 (some .long)]
def wsX4_link : List Cond := .code yX4_link cX4_link 9 (some .int) :: ((wsX4_link_r1 ++ wsX4_link_r2))
def wsX4_seed : List Cond := .code yX4_seed cX4_seed 5 (some .long) :: ([.fieldLink RX4 57 "GorgeRow" "seedNow" "J"] ++ wsX40)
def wsX4_gorges_r1 : List Cond := [Cond.fieldLink RX4 19 "GorgeRow" "path" "LGorgeRow$Path;", Cond.fieldLink RX4 28 "GorgeRow" "now" "LGorgeRow$Walk;", Cond.fieldLink RX4 32 "GorgeRow" "trial" "LGorgeRow$Walk;", Cond.fieldLink RX4 57 "GorgeRow" "seedNow" "J", Cond.constantLong RX4 225 (6364136223846793005), Cond.constantLong RX4 227 (1442695040888963407), Cond.methodLink RX4 61 yX4_within, Cond.static yX4_within, Cond.initialized RX4, Cond.code yX4_within cX4_within 3 (some .boolean), Cond.methodLink RX4 92 yX1_light, Cond.instanceMethod yX1_light, Cond.selects RX1 yX1_light yX1_light, Cond.initialized RX1, Cond.code yX1_light cX1_light 1 (some .int), Cond.fieldLink RX1 13 "GorgeRow$Path" "light" "I", Cond.methodLink RX4 98 yX3_place, Cond.instanceMethod yX3_place, Cond.selects RX3 yX3_place yX3_place, Cond.initialized RX3, Cond.code yX3_place cX3_place 1 (some .int), Cond.fieldLink RX3 18 "GorgeRow$Walk" "place" "I", Cond.methodLink RX4 164 yX3_state, Cond.instanceMethod yX3_state]
def wsX4_gorges_r2 : List Cond := [Cond.selects RX3 yX3_state yX3_state, Cond.code yX3_state cX3_state 1 (some .long), Cond.fieldLink RX3 15 "GorgeRow$Walk" "quiets" "I", Cond.fieldLink RX3 11 "GorgeRow$Walk" "row" "I", Cond.methodLink RX4 154 yX3_become, Cond.instanceMethod yX3_become, Cond.selects RX3 yX3_become yX3_become, Cond.code yX3_become cX3_become 3 none, Cond.constant RX3 65 (1048575), Cond.methodLink RX4 141 yX3_step, Cond.instanceMethod yX3_step, Cond.selects RX3 yX3_step yX3_step, Cond.code yX3_step cX3_step 6 (some .int), Cond.fieldLink RX3 24 "GorgeRow$Walk" "path" "LGorgeRow$Path;", Cond.methodLink RX3 47 yX3_size, Cond.instanceMethod yX3_size, Cond.selects RX3 yX3_size yX3_size, Cond.code yX3_size cX3_size 1 (some .int), Cond.methodLink RX3 28 yX0_size, Cond.static yX0_size, Cond.initialized RX0, Cond.code yX0_size cX0_size 2 (some .int), Cond.methodLink RX0 9 yX0_at, Cond.static yX0_at]
def wsX4_gorges_r3 : List Cond := [Cond.code yX0_at cX0_at 2 (some .int), Cond.methodLink RX3 49 yX3_walkerAt, Cond.instanceMethod yX3_walkerAt, Cond.selects RX3 yX3_walkerAt yX3_walkerAt, Cond.code yX3_walkerAt cX3_walkerAt 2 (some .int), Cond.methodLink RX3 43 yX0_at, Cond.methodLink RX3 87 yX1_kind, Cond.instanceMethod yX1_kind, Cond.selects RX1 yX1_kind yX1_kind, Cond.code yX1_kind cX1_kind 2 (some .int), Cond.fieldLink RX1 22 "GorgeRow$Path" "kinds" "I", Cond.methodLink RX1 53 yX0_at, Cond.methodLink RX3 90 yX3_isHeard, Cond.instanceMethod yX3_isHeard, Cond.selects RX3 yX3_isHeard yX3_isHeard, Cond.code yX3_isHeard cX3_isHeard 6 (some .boolean), Cond.methodLink RX3 97 yX1_water, Cond.instanceMethod yX1_water, Cond.selects RX1 yX1_water yX1_water, Cond.code yX1_water cX1_water 1 (some .int), Cond.fieldLink RX1 16 "GorgeRow$Path" "water" "I", Cond.methodLink RX3 73 yX3_quiet, Cond.instanceMethod yX3_quiet, Cond.selects RX3 yX3_quiet yX3_quiet]
def wsX4_gorges_r4 : List Cond := [Cond.code yX3_quiet cX3_quiet 2 (some .int), Cond.methodLink RX3 70 yX3_setQuiet, Cond.instanceMethod yX3_setQuiet, Cond.selects RX3 yX3_setQuiet yX3_setQuiet, Cond.code yX3_setQuiet cX3_setQuiet 3 none, Cond.methodLink RX3 106 yX0_with, Cond.static yX0_with, Cond.code yX0_with cX0_with 3 (some .int), Cond.methodLink RX3 94 yX3_turnRound, Cond.instanceMethod yX3_turnRound, Cond.selects RX3 yX3_turnRound yX3_turnRound, Cond.code yX3_turnRound cX3_turnRound 4 (some .int), Cond.fieldLink RX3 21 "GorgeRow$Walk" "turned" "I", Cond.methodLink RX3 100 yX1_nerve, Cond.instanceMethod yX1_nerve, Cond.selects RX1 yX1_nerve yX1_nerve, Cond.code yX1_nerve cX1_nerve 2 (some .int), Cond.fieldLink RX1 19 "GorgeRow$Path" "nerves" "I", Cond.methodLink RX3 103 yX0_without, Cond.static yX0_without, Cond.code yX0_without cX0_without 3 (some .int), Cond.methodLink RX4 144 yX3_size]
def wsX4_gorges : List Cond := .code yX4_gorges cX4_gorges 6 (some .int) :: ((wsX4_gorges_r1 ++ (wsX4_gorges_r2 ++ (wsX4_gorges_r3 ++ wsX4_gorges_r4))) ++ wsX40 ++ wsX10 ++ wsX30)
def wsX4_keep : List Cond := .code yX4_keep cX4_keep 2 (some .int) :: ([.fieldLink RX4 45 "GorgeRow" "kept" "[J", .fieldLink RX4 28 "GorgeRow" "now" "LGorgeRow$Walk;", .methodLink RX4 61 yX4_within, .static yX4_within, .initialized RX4, .code yX4_within cX4_within 3 (some .boolean), .methodLink RX4 164 yX3_state, .instanceMethod yX3_state, .selects RX3 yX3_state yX3_state, .initialized RX3, .code yX3_state cX3_state 1 (some .long), .fieldLink RX3 18 "GorgeRow$Walk" "place" "I", .fieldLink RX3 15 "GorgeRow$Walk" "quiets" "I", .fieldLink RX3 11 "GorgeRow$Walk" "row" "I", .methodLink RX4 98 yX3_place, .instanceMethod yX3_place, .selects RX3 yX3_place yX3_place, .code yX3_place cX3_place 1 (some .int)] ++ wsX40 ++ wsX30)
def wsX4_again : List Cond := .code yX4_again cX4_again 2 (some .int) :: ([.fieldLink RX4 45 "GorgeRow" "kept" "[J", .constantLong RX4 43 (-1), .fieldLink RX4 28 "GorgeRow" "now" "LGorgeRow$Walk;", .fieldLink RX4 39 "GorgeRow" "actCount" "I", .methodLink RX4 61 yX4_within, .static yX4_within, .initialized RX4, .code yX4_within cX4_within 3 (some .boolean), .methodLink RX4 154 yX3_become, .instanceMethod yX3_become, .selects RX3 yX3_become yX3_become, .initialized RX3, .code yX3_become cX3_become 3 none, .constant RX3 65 (1048575), .fieldLink RX3 11 "GorgeRow$Walk" "row" "I", .fieldLink RX3 15 "GorgeRow$Walk" "quiets" "I", .fieldLink RX3 18 "GorgeRow$Walk" "place" "I", .methodLink RX4 98 yX3_place, .instanceMethod yX3_place, .selects RX3 yX3_place yX3_place, .code yX3_place cX3_place 1 (some .int)] ++ wsX40 ++ wsX30)
def wsX5_init : List Cond := .code yX5_init cX5_init 1 none :: ([.methodLink RX5 1 objectInit, .instanceMethod objectInit, .code objectInit ⟨#[0xb1]⟩ 1 none, .arrayClass .int, .fieldLink RX5 7 "GorgeRowModel" "text" "[I", .fieldLink RX5 13 "GorgeRowModel" "light" "I", .fieldLink RX5 17 "GorgeRowModel" "water" "I", .fieldLink RX5 20 "GorgeRowModel" "nerve" "[I", .fieldLink RX5 23 "GorgeRowModel" "kind" "[I", .fieldLink RX5 26 "GorgeRowModel" "readNerve" "[I", .fieldLink RX5 29 "GorgeRowModel" "readKind" "[I", .fieldLink RX5 32 "GorgeRowModel" "page" "[I", .fieldLink RX5 35 "GorgeRowModel" "trial" "[I", .fieldLink RX5 38 "GorgeRowModel" "book" "[I", .fieldLink RX5 41 "GorgeRowModel" "kept" "[I", .arrayClass .boolean, .fieldLink RX5 44 "GorgeRowModel" "isKept" "[Z", .fieldLink RX5 48 "GorgeRowModel" "toldMinute" "[I", .fieldLink RX5 51 "GorgeRowModel" "toldHeard" "[Z", .fieldLink RX5 54 "GorgeRowModel" "worth" "[I"] ++ wsX50)
def wsX5_in : List Cond := .code yX5_in cX5_in 6 (some .boolean) :: ([])
def wsX5_has : List Cond := .code yX5_has cX5_has 2 (some .boolean) :: ([])
def wsX5_many : List Cond := .code yX5_many cX5_many 3 (some .int) :: ([])
def wsX5_noOne : List Cond := .code yX5_noOne cX5_noOne 2 (some .boolean) :: ([.fieldLink RX5 60 "GorgeRowModel" "walkers" "I", .methodLink RX5 63 yX5_in, .static yX5_in, .initialized RX5, .code yX5_in cX5_in 6 (some .boolean)] ++ wsX50)
def wsX5_write : List Cond := .code yX5_write cX5_write 2 (some .int) :: ([.fieldLink RX5 57 "GorgeRowModel" "thrown" "I", .constantLong RX5 67 (255), .fieldLink RX5 69 "GorgeRowModel" "textSize" "I", .fieldLink RX5 7 "GorgeRowModel" "text" "[I", .methodLink RX5 63 yX5_in, .static yX5_in, .initialized RX5, .code yX5_in cX5_in 6 (some .boolean)] ++ wsX50)
def wsX5_wipe : List Cond := .code yX5_wipe cX5_wipe 2 (some .int) :: ([.fieldLink RX5 57 "GorgeRowModel" "thrown" "I", .fieldLink RX5 69 "GorgeRowModel" "textSize" "I"] ++ wsX50)
def wsX5_figure : List Cond := .code yX5_figure cX5_figure 3 (some .int) :: ([.fieldLink RX5 72 "GorgeRowModel" "place" "I", .fieldLink RX5 69 "GorgeRowModel" "textSize" "I", .fieldLink RX5 7 "GorgeRowModel" "text" "[I", .methodLink RX5 63 yX5_in, .static yX5_in, .initialized RX5, .code yX5_in cX5_in 6 (some .boolean)] ++ wsX50)
def wsX5_readGorge : List Cond := .code yX5_readGorge cX5_readGorge 3 (some .int) :: ([.fieldLink RX5 72 "GorgeRowModel" "place" "I", .fieldLink RX5 75 "GorgeRowModel" "readWalkers" "I", .fieldLink RX5 69 "GorgeRowModel" "textSize" "I", .fieldLink RX5 7 "GorgeRowModel" "text" "[I", .fieldLink RX5 82 "GorgeRowModel" "readLight" "I", .fieldLink RX5 85 "GorgeRowModel" "readWater" "I", .fieldLink RX5 26 "GorgeRowModel" "readNerve" "[I", .fieldLink RX5 29 "GorgeRowModel" "readKind" "[I", .methodLink RX5 78 yX5_figure, .instanceMethod yX5_figure, .selects RX5 yX5_figure yX5_figure, .initialized RX5, .code yX5_figure cX5_figure 3 (some .int), .methodLink RX5 63 yX5_in, .static yX5_in, .code yX5_in cX5_in 6 (some .boolean)] ++ wsX50)
def wsX5_fault : List Cond := .code yX5_fault cX5_fault 1 (some .int) :: ([.fieldLink RX5 57 "GorgeRowModel" "thrown" "I", .methodLink RX5 88 yX5_readGorge, .instanceMethod yX5_readGorge, .selects RX5 yX5_readGorge yX5_readGorge, .initialized RX5, .code yX5_readGorge cX5_readGorge 3 (some .int), .fieldLink RX5 72 "GorgeRowModel" "place" "I", .fieldLink RX5 75 "GorgeRowModel" "readWalkers" "I", .fieldLink RX5 69 "GorgeRowModel" "textSize" "I", .fieldLink RX5 7 "GorgeRowModel" "text" "[I", .fieldLink RX5 82 "GorgeRowModel" "readLight" "I", .fieldLink RX5 85 "GorgeRowModel" "readWater" "I", .fieldLink RX5 26 "GorgeRowModel" "readNerve" "[I", .fieldLink RX5 29 "GorgeRowModel" "readKind" "[I", .methodLink RX5 78 yX5_figure, .instanceMethod yX5_figure, .selects RX5 yX5_figure yX5_figure, .code yX5_figure cX5_figure 3 (some .int), .methodLink RX5 63 yX5_in, .static yX5_in, .code yX5_in cX5_in 6 (some .boolean)] ++ wsX50)
def wsX5_gorge_r1 : List Cond := [Cond.fieldLink RX5 57 "GorgeRowModel" "thrown" "I", Cond.fieldLink RX5 75 "GorgeRowModel" "readWalkers" "I", Cond.fieldLink RX5 60 "GorgeRowModel" "walkers" "I", Cond.fieldLink RX5 82 "GorgeRowModel" "readLight" "I", Cond.fieldLink RX5 13 "GorgeRowModel" "light" "I", Cond.fieldLink RX5 85 "GorgeRowModel" "readWater" "I", Cond.fieldLink RX5 17 "GorgeRowModel" "water" "I", Cond.fieldLink RX5 32 "GorgeRowModel" "page" "[I", Cond.fieldLink RX5 20 "GorgeRowModel" "nerve" "[I", Cond.fieldLink RX5 26 "GorgeRowModel" "readNerve" "[I", Cond.fieldLink RX5 23 "GorgeRowModel" "kind" "[I", Cond.fieldLink RX5 29 "GorgeRowModel" "readKind" "[I", Cond.fieldLink RX5 92 "GorgeRowModel" "acts" "I", Cond.fieldLink RX5 44 "GorgeRowModel" "isKept" "[Z", Cond.methodLink RX5 88 yX5_readGorge, Cond.instanceMethod yX5_readGorge, Cond.selects RX5 yX5_readGorge yX5_readGorge, Cond.initialized RX5, Cond.code yX5_readGorge cX5_readGorge 3 (some .int), Cond.fieldLink RX5 72 "GorgeRowModel" "place" "I", Cond.fieldLink RX5 69 "GorgeRowModel" "textSize" "I", Cond.fieldLink RX5 7 "GorgeRowModel" "text" "[I", Cond.methodLink RX5 78 yX5_figure, Cond.instanceMethod yX5_figure]
def wsX5_gorge_r2 : List Cond := [Cond.selects RX5 yX5_figure yX5_figure, Cond.code yX5_figure cX5_figure 3 (some .int), Cond.methodLink RX5 63 yX5_in, Cond.static yX5_in, Cond.code yX5_in cX5_in 6 (some .boolean)]
def wsX5_gorge : List Cond := .code yX5_gorge cX5_gorge 2 (some .int) :: ((wsX5_gorge_r1 ++ wsX5_gorge_r2) ++ wsX50)
def wsX5_rowOf : List Cond := .code yX5_rowOf cX5_rowOf 3 (some .int) :: ([])
def wsX5_figuresOf : List Cond := .code yX5_figuresOf cX5_figuresOf 3 (some .int) :: ([])
def wsX5_about : List Cond := .code yX5_about cX5_about 2 (some .int) :: ([.fieldLink RX5 57 "GorgeRowModel" "thrown" "I", .fieldLink RX5 60 "GorgeRowModel" "walkers" "I", .fieldLink RX5 13 "GorgeRowModel" "light" "I", .fieldLink RX5 17 "GorgeRowModel" "water" "I", .fieldLink RX5 32 "GorgeRowModel" "page" "[I", .fieldLink RX5 92 "GorgeRowModel" "acts" "I", .fieldLink RX5 102 "GorgeRowModel" "told" "I", .fieldLink RX5 69 "GorgeRowModel" "textSize" "I", .methodLink RX5 95 yX5_rowOf, .static yX5_rowOf, .initialized RX5, .code yX5_rowOf cX5_rowOf 3 (some .int), .methodLink RX5 99 yX5_figuresOf, .static yX5_figuresOf, .code yX5_figuresOf cX5_figuresOf 3 (some .int)] ++ wsX50)
def wsX5_placeOf : List Cond := .code yX5_placeOf cX5_placeOf 4 (some .int) :: ([])
def wsX5_walker : List Cond := .code yX5_walker cX5_walker 4 (some .int) :: ([.fieldLink RX5 57 "GorgeRowModel" "thrown" "I", .fieldLink RX5 32 "GorgeRowModel" "page" "[I", .fieldLink RX5 20 "GorgeRowModel" "nerve" "[I", .fieldLink RX5 23 "GorgeRowModel" "kind" "[I", .methodLink RX5 105 yX5_noOne, .instanceMethod yX5_noOne, .selects RX5 yX5_noOne yX5_noOne, .initialized RX5, .code yX5_noOne cX5_noOne 2 (some .boolean), .fieldLink RX5 60 "GorgeRowModel" "walkers" "I", .methodLink RX5 63 yX5_in, .static yX5_in, .code yX5_in cX5_in 6 (some .boolean), .methodLink RX5 109 yX5_placeOf, .static yX5_placeOf, .code yX5_placeOf cX5_placeOf 4 (some .int)] ++ wsX50)
def wsX5_isHeard : List Cond := .code yX5_isHeard cX5_isHeard 5 (some .boolean) :: ([.fieldLink RX5 23 "GorgeRowModel" "kind" "[I", .fieldLink RX5 17 "GorgeRowModel" "water" "I", .methodLink RX5 113 yX5_has, .static yX5_has, .initialized RX5, .code yX5_has cX5_has 2 (some .boolean)] ++ wsX50)
def wsX5_goMinute : List Cond := .code yX5_goMinute cX5_goMinute 7 (some .int) :: ([.fieldLink RX5 23 "GorgeRowModel" "kind" "[I", .fieldLink RX5 121 "GorgeRowModel" "turned" "I", .fieldLink RX5 20 "GorgeRowModel" "nerve" "[I", .methodLink RX5 117 yX5_isHeard, .instanceMethod yX5_isHeard, .selects RX5 yX5_isHeard yX5_isHeard, .initialized RX5, .code yX5_isHeard cX5_isHeard 5 (some .boolean), .fieldLink RX5 17 "GorgeRowModel" "water" "I", .methodLink RX5 113 yX5_has, .static yX5_has, .code yX5_has cX5_has 2 (some .boolean)] ++ wsX50)
def wsX5_note : List Cond := .code yX5_note cX5_note 2 none :: ([.fieldLink RX5 92 "GorgeRowModel" "acts" "I", .fieldLink RX5 38 "GorgeRowModel" "book" "[I", .fieldLink RX5 32 "GorgeRowModel" "page" "[I"] ++ wsX50)
def wsX5_minute_r1 : List Cond := [Cond.fieldLink RX5 57 "GorgeRowModel" "thrown" "I", Cond.fieldLink RX5 60 "GorgeRowModel" "walkers" "I", Cond.fieldLink RX5 32 "GorgeRowModel" "page" "[I", Cond.fieldLink RX5 13 "GorgeRowModel" "light" "I", Cond.methodLink RX5 63 yX5_in, Cond.static yX5_in, Cond.initialized RX5, Cond.code yX5_in cX5_in 6 (some .boolean), Cond.methodLink RX5 124 yX5_note, Cond.instanceMethod yX5_note, Cond.selects RX5 yX5_note yX5_note, Cond.code yX5_note cX5_note 2 none, Cond.fieldLink RX5 92 "GorgeRowModel" "acts" "I", Cond.fieldLink RX5 38 "GorgeRowModel" "book" "[I", Cond.methodLink RX5 127 yX5_goMinute, Cond.instanceMethod yX5_goMinute, Cond.selects RX5 yX5_goMinute yX5_goMinute, Cond.code yX5_goMinute cX5_goMinute 7 (some .int), Cond.fieldLink RX5 23 "GorgeRowModel" "kind" "[I", Cond.fieldLink RX5 121 "GorgeRowModel" "turned" "I", Cond.fieldLink RX5 20 "GorgeRowModel" "nerve" "[I", Cond.methodLink RX5 117 yX5_isHeard, Cond.instanceMethod yX5_isHeard, Cond.selects RX5 yX5_isHeard yX5_isHeard]
def wsX5_minute_r2 : List Cond := [Cond.code yX5_isHeard cX5_isHeard 5 (some .boolean), Cond.fieldLink RX5 17 "GorgeRowModel" "water" "I", Cond.methodLink RX5 113 yX5_has, Cond.static yX5_has, Cond.code yX5_has cX5_has 2 (some .boolean)]
def wsX5_minute : List Cond := .code yX5_minute cX5_minute 2 (some .int) :: ((wsX5_minute_r1 ++ wsX5_minute_r2) ++ wsX50)
def wsX5_change : List Cond := .code yX5_change cX5_change 3 (some .int) :: ([.fieldLink RX5 57 "GorgeRowModel" "thrown" "I", .constantLong RX5 130 (3), .fieldLink RX5 32 "GorgeRowModel" "page" "[I", .fieldLink RX5 13 "GorgeRowModel" "light" "I", .methodLink RX5 63 yX5_in, .static yX5_in, .initialized RX5, .code yX5_in cX5_in 6 (some .boolean), .methodLink RX5 124 yX5_note, .instanceMethod yX5_note, .selects RX5 yX5_note yX5_note, .code yX5_note cX5_note 2 none, .fieldLink RX5 92 "GorgeRowModel" "acts" "I", .fieldLink RX5 38 "GorgeRowModel" "book" "[I", .methodLink RX5 99 yX5_figuresOf, .static yX5_figuresOf, .code yX5_figuresOf cX5_figuresOf 3 (some .int)] ++ wsX50)
def wsX5_rest : List Cond := .code yX5_rest cX5_rest 3 (some .int) :: ([.fieldLink RX5 57 "GorgeRowModel" "thrown" "I", .fieldLink RX5 32 "GorgeRowModel" "page" "[I", .fieldLink RX5 13 "GorgeRowModel" "light" "I", .methodLink RX5 124 yX5_note, .instanceMethod yX5_note, .selects RX5 yX5_note yX5_note, .initialized RX5, .code yX5_note cX5_note 2 none, .fieldLink RX5 92 "GorgeRowModel" "acts" "I", .fieldLink RX5 38 "GorgeRowModel" "book" "[I"] ++ wsX50)
def wsX5_undo : List Cond := .code yX5_undo cX5_undo 2 (some .int) :: ([.fieldLink RX5 57 "GorgeRowModel" "thrown" "I", .fieldLink RX5 92 "GorgeRowModel" "acts" "I", .fieldLink RX5 32 "GorgeRowModel" "page" "[I", .fieldLink RX5 38 "GorgeRowModel" "book" "[I"] ++ wsX50)
def wsX5_hundred : List Cond := .code yX5_hundred cX5_hundred 4 (some .long) :: ([.constantLong RX5 132 (100)])
def wsX5_treadsOf : List Cond := .code yX5_treadsOf cX5_treadsOf 4 (some .int) :: ([.constantLong RX5 132 (100), .methodLink RX5 134 yX5_hundred, .static yX5_hundred, .initialized RX5, .code yX5_hundred cX5_hundred 4 (some .long)])
def wsX5_noSong : List Cond := .code yX5_noSong cX5_noSong 5 (some .boolean) :: ([.constantLong RX5 138 (5), .methodLink RX5 63 yX5_in, .static yX5_in, .initialized RX5, .code yX5_in cX5_in 6 (some .boolean), .methodLink RX5 134 yX5_hundred, .static yX5_hundred, .code yX5_hundred cX5_hundred 4 (some .long), .constantLong RX5 132 (100), .methodLink RX5 140 yX5_treadsOf, .static yX5_treadsOf, .code yX5_treadsOf cX5_treadsOf 4 (some .int)])
def wsX5_begin : List Cond := .code yX5_begin cX5_begin 2 none :: ([.fieldLink RX5 35 "GorgeRowModel" "trial" "[I", .fieldLink RX5 32 "GorgeRowModel" "page" "[I"] ++ wsX50)
def wsX5_sing_r1 : List Cond := [Cond.fieldLink RX5 35 "GorgeRowModel" "trial" "[I", Cond.fieldLink RX5 13 "GorgeRowModel" "light" "I", Cond.methodLink RX5 140 yX5_treadsOf, Cond.static yX5_treadsOf, Cond.initialized RX5, Cond.code yX5_treadsOf cX5_treadsOf 4 (some .int), Cond.constantLong RX5 132 (100), Cond.methodLink RX5 134 yX5_hundred, Cond.static yX5_hundred, Cond.code yX5_hundred cX5_hundred 4 (some .long), Cond.methodLink RX5 127 yX5_goMinute, Cond.instanceMethod yX5_goMinute, Cond.selects RX5 yX5_goMinute yX5_goMinute, Cond.code yX5_goMinute cX5_goMinute 7 (some .int), Cond.fieldLink RX5 23 "GorgeRowModel" "kind" "[I", Cond.fieldLink RX5 121 "GorgeRowModel" "turned" "I", Cond.fieldLink RX5 20 "GorgeRowModel" "nerve" "[I", Cond.methodLink RX5 117 yX5_isHeard, Cond.instanceMethod yX5_isHeard, Cond.selects RX5 yX5_isHeard yX5_isHeard, Cond.code yX5_isHeard cX5_isHeard 5 (some .boolean), Cond.fieldLink RX5 17 "GorgeRowModel" "water" "I", Cond.methodLink RX5 113 yX5_has, Cond.static yX5_has]
def wsX5_sing_r2 : List Cond := [Cond.code yX5_has cX5_has 2 (some .boolean)]
def wsX5_sing : List Cond := .code yX5_sing cX5_sing 7 (some .int) :: ((wsX5_sing_r1 ++ wsX5_sing_r2) ++ wsX50)
def wsX5_left_r1 : List Cond := [Cond.fieldLink RX5 57 "GorgeRowModel" "thrown" "I", Cond.fieldLink RX5 35 "GorgeRowModel" "trial" "[I", Cond.methodLink RX5 144 yX5_noSong, Cond.static yX5_noSong, Cond.initialized RX5, Cond.code yX5_noSong cX5_noSong 5 (some .boolean), Cond.constantLong RX5 138 (5), Cond.methodLink RX5 63 yX5_in, Cond.static yX5_in, Cond.code yX5_in cX5_in 6 (some .boolean), Cond.methodLink RX5 134 yX5_hundred, Cond.static yX5_hundred, Cond.code yX5_hundred cX5_hundred 4 (some .long), Cond.constantLong RX5 132 (100), Cond.methodLink RX5 140 yX5_treadsOf, Cond.static yX5_treadsOf, Cond.code yX5_treadsOf cX5_treadsOf 4 (some .int), Cond.methodLink RX5 148 yX5_begin, Cond.instanceMethod yX5_begin, Cond.selects RX5 yX5_begin yX5_begin, Cond.code yX5_begin cX5_begin 2 none, Cond.fieldLink RX5 32 "GorgeRowModel" "page" "[I", Cond.methodLink RX5 151 yX5_sing, Cond.instanceMethod yX5_sing]
def wsX5_left_r2 : List Cond := [Cond.selects RX5 yX5_sing yX5_sing, Cond.code yX5_sing cX5_sing 7 (some .int), Cond.fieldLink RX5 13 "GorgeRowModel" "light" "I", Cond.methodLink RX5 127 yX5_goMinute, Cond.instanceMethod yX5_goMinute, Cond.selects RX5 yX5_goMinute yX5_goMinute, Cond.code yX5_goMinute cX5_goMinute 7 (some .int), Cond.fieldLink RX5 23 "GorgeRowModel" "kind" "[I", Cond.fieldLink RX5 121 "GorgeRowModel" "turned" "I", Cond.fieldLink RX5 20 "GorgeRowModel" "nerve" "[I", Cond.methodLink RX5 117 yX5_isHeard, Cond.instanceMethod yX5_isHeard, Cond.selects RX5 yX5_isHeard yX5_isHeard, Cond.code yX5_isHeard cX5_isHeard 5 (some .boolean), Cond.fieldLink RX5 17 "GorgeRowModel" "water" "I", Cond.methodLink RX5 113 yX5_has, Cond.static yX5_has, Cond.code yX5_has cX5_has 2 (some .boolean), Cond.methodLink RX5 95 yX5_rowOf, Cond.static yX5_rowOf, Cond.code yX5_rowOf cX5_rowOf 3 (some .int)]
def wsX5_left : List Cond := .code yX5_left cX5_left 4 (some .int) :: ((wsX5_left_r1 ++ wsX5_left_r2) ++ wsX50)
def wsX5_firstTurn_r1 : List Cond := [Cond.fieldLink RX5 57 "GorgeRowModel" "thrown" "I", Cond.methodLink RX5 144 yX5_noSong, Cond.static yX5_noSong, Cond.initialized RX5, Cond.code yX5_noSong cX5_noSong 5 (some .boolean), Cond.constantLong RX5 138 (5), Cond.methodLink RX5 63 yX5_in, Cond.static yX5_in, Cond.code yX5_in cX5_in 6 (some .boolean), Cond.methodLink RX5 134 yX5_hundred, Cond.static yX5_hundred, Cond.code yX5_hundred cX5_hundred 4 (some .long), Cond.constantLong RX5 132 (100), Cond.methodLink RX5 140 yX5_treadsOf, Cond.static yX5_treadsOf, Cond.code yX5_treadsOf cX5_treadsOf 4 (some .int), Cond.methodLink RX5 148 yX5_begin, Cond.instanceMethod yX5_begin, Cond.selects RX5 yX5_begin yX5_begin, Cond.code yX5_begin cX5_begin 2 none, Cond.fieldLink RX5 35 "GorgeRowModel" "trial" "[I", Cond.fieldLink RX5 32 "GorgeRowModel" "page" "[I", Cond.methodLink RX5 151 yX5_sing, Cond.instanceMethod yX5_sing]
def wsX5_firstTurn_r2 : List Cond := [Cond.selects RX5 yX5_sing yX5_sing, Cond.code yX5_sing cX5_sing 7 (some .int), Cond.fieldLink RX5 13 "GorgeRowModel" "light" "I", Cond.methodLink RX5 127 yX5_goMinute, Cond.instanceMethod yX5_goMinute, Cond.selects RX5 yX5_goMinute yX5_goMinute, Cond.code yX5_goMinute cX5_goMinute 7 (some .int), Cond.fieldLink RX5 23 "GorgeRowModel" "kind" "[I", Cond.fieldLink RX5 121 "GorgeRowModel" "turned" "I", Cond.fieldLink RX5 20 "GorgeRowModel" "nerve" "[I", Cond.methodLink RX5 117 yX5_isHeard, Cond.instanceMethod yX5_isHeard, Cond.selects RX5 yX5_isHeard yX5_isHeard, Cond.code yX5_isHeard cX5_isHeard 5 (some .boolean), Cond.fieldLink RX5 17 "GorgeRowModel" "water" "I", Cond.methodLink RX5 113 yX5_has, Cond.static yX5_has, Cond.code yX5_has cX5_has 2 (some .boolean)]
def wsX5_firstTurn : List Cond := .code yX5_firstTurn cX5_firstTurn 4 (some .int) :: ((wsX5_firstTurn_r1 ++ wsX5_firstTurn_r2) ++ wsX50)
def wsX5_hush : List Cond := .code yX5_hush cX5_hush 2 none :: ([.fieldLink RX5 35 "GorgeRowModel" "trial" "[I"] ++ wsX50)
def wsX5_findOrder_r1 : List Cond := [Cond.fieldLink RX5 32 "GorgeRowModel" "page" "[I", Cond.fieldLink RX5 155 "GorgeRowModel" "orderBest" "I", Cond.fieldLink RX5 158 "GorgeRowModel" "orderMany" "I", Cond.fieldLink RX5 35 "GorgeRowModel" "trial" "[I", Cond.methodLink RX5 148 yX5_begin, Cond.instanceMethod yX5_begin, Cond.selects RX5 yX5_begin yX5_begin, Cond.initialized RX5, Cond.code yX5_begin cX5_begin 2 none, Cond.methodLink RX5 95 yX5_rowOf, Cond.static yX5_rowOf, Cond.code yX5_rowOf cX5_rowOf 3 (some .int), Cond.methodLink RX5 161 yX5_hush, Cond.instanceMethod yX5_hush, Cond.selects RX5 yX5_hush yX5_hush, Cond.code yX5_hush cX5_hush 2 none, Cond.methodLink RX5 151 yX5_sing, Cond.instanceMethod yX5_sing, Cond.selects RX5 yX5_sing yX5_sing, Cond.code yX5_sing cX5_sing 7 (some .int), Cond.fieldLink RX5 13 "GorgeRowModel" "light" "I", Cond.methodLink RX5 140 yX5_treadsOf, Cond.static yX5_treadsOf, Cond.code yX5_treadsOf cX5_treadsOf 4 (some .int)]
def wsX5_findOrder_r2 : List Cond := [Cond.constantLong RX5 132 (100), Cond.methodLink RX5 134 yX5_hundred, Cond.static yX5_hundred, Cond.code yX5_hundred cX5_hundred 4 (some .long), Cond.methodLink RX5 127 yX5_goMinute, Cond.instanceMethod yX5_goMinute, Cond.selects RX5 yX5_goMinute yX5_goMinute, Cond.code yX5_goMinute cX5_goMinute 7 (some .int), Cond.fieldLink RX5 23 "GorgeRowModel" "kind" "[I", Cond.fieldLink RX5 121 "GorgeRowModel" "turned" "I", Cond.fieldLink RX5 20 "GorgeRowModel" "nerve" "[I", Cond.methodLink RX5 117 yX5_isHeard, Cond.instanceMethod yX5_isHeard, Cond.selects RX5 yX5_isHeard yX5_isHeard, Cond.code yX5_isHeard cX5_isHeard 5 (some .boolean), Cond.fieldLink RX5 17 "GorgeRowModel" "water" "I", Cond.methodLink RX5 113 yX5_has, Cond.static yX5_has, Cond.code yX5_has cX5_has 2 (some .boolean)]
def wsX5_findOrder : List Cond := .code yX5_findOrder cX5_findOrder 11 none :: ((wsX5_findOrder_r1 ++ wsX5_findOrder_r2) ++ wsX50)
def wsX5_order_r1 : List Cond := [Cond.fieldLink RX5 57 "GorgeRowModel" "thrown" "I", Cond.fieldLink RX5 155 "GorgeRowModel" "orderBest" "I", Cond.fieldLink RX5 158 "GorgeRowModel" "orderMany" "I", Cond.methodLink RX5 144 yX5_noSong, Cond.static yX5_noSong, Cond.initialized RX5, Cond.code yX5_noSong cX5_noSong 5 (some .boolean), Cond.constantLong RX5 138 (5), Cond.methodLink RX5 63 yX5_in, Cond.static yX5_in, Cond.code yX5_in cX5_in 6 (some .boolean), Cond.methodLink RX5 134 yX5_hundred, Cond.static yX5_hundred, Cond.code yX5_hundred cX5_hundred 4 (some .long), Cond.constantLong RX5 132 (100), Cond.methodLink RX5 140 yX5_treadsOf, Cond.static yX5_treadsOf, Cond.code yX5_treadsOf cX5_treadsOf 4 (some .int), Cond.methodLink RX5 164 yX5_findOrder, Cond.instanceMethod yX5_findOrder, Cond.selects RX5 yX5_findOrder yX5_findOrder, Cond.code yX5_findOrder cX5_findOrder 11 none, Cond.fieldLink RX5 32 "GorgeRowModel" "page" "[I", Cond.fieldLink RX5 35 "GorgeRowModel" "trial" "[I"]
def wsX5_order_r2 : List Cond := [Cond.methodLink RX5 148 yX5_begin, Cond.instanceMethod yX5_begin, Cond.selects RX5 yX5_begin yX5_begin, Cond.code yX5_begin cX5_begin 2 none, Cond.methodLink RX5 95 yX5_rowOf, Cond.static yX5_rowOf, Cond.code yX5_rowOf cX5_rowOf 3 (some .int), Cond.methodLink RX5 161 yX5_hush, Cond.instanceMethod yX5_hush, Cond.selects RX5 yX5_hush yX5_hush, Cond.code yX5_hush cX5_hush 2 none, Cond.methodLink RX5 151 yX5_sing, Cond.instanceMethod yX5_sing, Cond.selects RX5 yX5_sing yX5_sing, Cond.code yX5_sing cX5_sing 7 (some .int), Cond.fieldLink RX5 13 "GorgeRowModel" "light" "I", Cond.methodLink RX5 127 yX5_goMinute, Cond.instanceMethod yX5_goMinute, Cond.selects RX5 yX5_goMinute yX5_goMinute, Cond.code yX5_goMinute cX5_goMinute 7 (some .int), Cond.fieldLink RX5 23 "GorgeRowModel" "kind" "[I", Cond.fieldLink RX5 121 "GorgeRowModel" "turned" "I", Cond.fieldLink RX5 20 "GorgeRowModel" "nerve" "[I", Cond.methodLink RX5 117 yX5_isHeard]
def wsX5_order_r3 : List Cond := [Cond.instanceMethod yX5_isHeard, Cond.selects RX5 yX5_isHeard yX5_isHeard, Cond.code yX5_isHeard cX5_isHeard 5 (some .boolean), Cond.fieldLink RX5 17 "GorgeRowModel" "water" "I", Cond.methodLink RX5 113 yX5_has, Cond.static yX5_has, Cond.code yX5_has cX5_has 2 (some .boolean)]
def wsX5_order : List Cond := .code yX5_order cX5_order 5 (some .int) :: ((wsX5_order_r1 ++ (wsX5_order_r2 ++ wsX5_order_r3)) ++ wsX50)
def wsX5_worthOf_r1 : List Cond := [Cond.fieldLink RX5 32 "GorgeRowModel" "page" "[I", Cond.fieldLink RX5 35 "GorgeRowModel" "trial" "[I", Cond.methodLink RX5 148 yX5_begin, Cond.instanceMethod yX5_begin, Cond.selects RX5 yX5_begin yX5_begin, Cond.initialized RX5, Cond.code yX5_begin cX5_begin 2 none, Cond.methodLink RX5 161 yX5_hush, Cond.instanceMethod yX5_hush, Cond.selects RX5 yX5_hush yX5_hush, Cond.code yX5_hush cX5_hush 2 none, Cond.methodLink RX5 113 yX5_has, Cond.static yX5_has, Cond.code yX5_has cX5_has 2 (some .boolean), Cond.methodLink RX5 151 yX5_sing, Cond.instanceMethod yX5_sing, Cond.selects RX5 yX5_sing yX5_sing, Cond.code yX5_sing cX5_sing 7 (some .int), Cond.fieldLink RX5 13 "GorgeRowModel" "light" "I", Cond.methodLink RX5 140 yX5_treadsOf, Cond.static yX5_treadsOf, Cond.code yX5_treadsOf cX5_treadsOf 4 (some .int), Cond.constantLong RX5 132 (100), Cond.methodLink RX5 134 yX5_hundred]
def wsX5_worthOf_r2 : List Cond := [Cond.static yX5_hundred, Cond.code yX5_hundred cX5_hundred 4 (some .long), Cond.methodLink RX5 127 yX5_goMinute, Cond.instanceMethod yX5_goMinute, Cond.selects RX5 yX5_goMinute yX5_goMinute, Cond.code yX5_goMinute cX5_goMinute 7 (some .int), Cond.fieldLink RX5 23 "GorgeRowModel" "kind" "[I", Cond.fieldLink RX5 121 "GorgeRowModel" "turned" "I", Cond.fieldLink RX5 20 "GorgeRowModel" "nerve" "[I", Cond.methodLink RX5 117 yX5_isHeard, Cond.instanceMethod yX5_isHeard, Cond.selects RX5 yX5_isHeard yX5_isHeard, Cond.code yX5_isHeard cX5_isHeard 5 (some .boolean), Cond.fieldLink RX5 17 "GorgeRowModel" "water" "I"]
def wsX5_worthOf : List Cond := .code yX5_worthOf cX5_worthOf 7 (some .int) :: ((wsX5_worthOf_r1 ++ wsX5_worthOf_r2) ++ wsX50)
def wsX5_orders : List Cond := .code yX5_orders cX5_orders 3 (some .int) :: ([])
def wsX5_divisor : List Cond := .code yX5_divisor cX5_divisor 5 (some .int) :: ([])
def wsX5_fraction : List Cond := .code yX5_fraction cX5_fraction 4 (some .int) :: ([.methodLink RX5 168 yX5_divisor, .static yX5_divisor, .initialized RX5, .code yX5_divisor cX5_divisor 5 (some .int)])
def wsX5_share_r1 : List Cond := [Cond.fieldLink RX5 57 "GorgeRowModel" "thrown" "I", Cond.fieldLink RX5 32 "GorgeRowModel" "page" "[I", Cond.fieldLink RX5 54 "GorgeRowModel" "worth" "[I", Cond.methodLink RX5 105 yX5_noOne, Cond.instanceMethod yX5_noOne, Cond.selects RX5 yX5_noOne yX5_noOne, Cond.initialized RX5, Cond.code yX5_noOne cX5_noOne 2 (some .boolean), Cond.fieldLink RX5 60 "GorgeRowModel" "walkers" "I", Cond.methodLink RX5 63 yX5_in, Cond.static yX5_in, Cond.code yX5_in cX5_in 6 (some .boolean), Cond.methodLink RX5 144 yX5_noSong, Cond.static yX5_noSong, Cond.code yX5_noSong cX5_noSong 5 (some .boolean), Cond.constantLong RX5 138 (5), Cond.methodLink RX5 134 yX5_hundred, Cond.static yX5_hundred, Cond.code yX5_hundred cX5_hundred 4 (some .long), Cond.constantLong RX5 132 (100), Cond.methodLink RX5 140 yX5_treadsOf, Cond.static yX5_treadsOf, Cond.code yX5_treadsOf cX5_treadsOf 4 (some .int), Cond.methodLink RX5 95 yX5_rowOf]
def wsX5_share_r2 : List Cond := [Cond.static yX5_rowOf, Cond.code yX5_rowOf cX5_rowOf 3 (some .int), Cond.methodLink RX5 171 yX5_worthOf, Cond.instanceMethod yX5_worthOf, Cond.selects RX5 yX5_worthOf yX5_worthOf, Cond.code yX5_worthOf cX5_worthOf 7 (some .int), Cond.fieldLink RX5 35 "GorgeRowModel" "trial" "[I", Cond.methodLink RX5 148 yX5_begin, Cond.instanceMethod yX5_begin, Cond.selects RX5 yX5_begin yX5_begin, Cond.code yX5_begin cX5_begin 2 none, Cond.methodLink RX5 161 yX5_hush, Cond.instanceMethod yX5_hush, Cond.selects RX5 yX5_hush yX5_hush, Cond.code yX5_hush cX5_hush 2 none, Cond.methodLink RX5 113 yX5_has, Cond.static yX5_has, Cond.code yX5_has cX5_has 2 (some .boolean), Cond.methodLink RX5 151 yX5_sing, Cond.instanceMethod yX5_sing, Cond.selects RX5 yX5_sing yX5_sing, Cond.code yX5_sing cX5_sing 7 (some .int), Cond.fieldLink RX5 13 "GorgeRowModel" "light" "I", Cond.methodLink RX5 127 yX5_goMinute]
def wsX5_share_r3 : List Cond := [Cond.instanceMethod yX5_goMinute, Cond.selects RX5 yX5_goMinute yX5_goMinute, Cond.code yX5_goMinute cX5_goMinute 7 (some .int), Cond.fieldLink RX5 23 "GorgeRowModel" "kind" "[I", Cond.fieldLink RX5 121 "GorgeRowModel" "turned" "I", Cond.fieldLink RX5 20 "GorgeRowModel" "nerve" "[I", Cond.methodLink RX5 117 yX5_isHeard, Cond.instanceMethod yX5_isHeard, Cond.selects RX5 yX5_isHeard yX5_isHeard, Cond.code yX5_isHeard cX5_isHeard 5 (some .boolean), Cond.fieldLink RX5 17 "GorgeRowModel" "water" "I", Cond.methodLink RX5 175 yX5_many, Cond.static yX5_many, Cond.code yX5_many cX5_many 3 (some .int), Cond.methodLink RX5 179 yX5_orders, Cond.static yX5_orders, Cond.code yX5_orders cX5_orders 3 (some .int), Cond.methodLink RX5 182 yX5_fraction, Cond.static yX5_fraction, Cond.code yX5_fraction cX5_fraction 4 (some .int), Cond.methodLink RX5 168 yX5_divisor, Cond.static yX5_divisor, Cond.code yX5_divisor cX5_divisor 5 (some .int)]
def wsX5_share : List Cond := .code yX5_share cX5_share 11 (some .int) :: ((wsX5_share_r1 ++ (wsX5_share_r2 ++ wsX5_share_r3)) ++ wsX50)
def wsX5_bears_r1 : List Cond := [Cond.fieldLink RX5 57 "GorgeRowModel" "thrown" "I", Cond.fieldLink RX5 32 "GorgeRowModel" "page" "[I", Cond.fieldLink RX5 35 "GorgeRowModel" "trial" "[I", Cond.fieldLink RX5 13 "GorgeRowModel" "light" "I", Cond.fieldLink RX5 121 "GorgeRowModel" "turned" "I", Cond.methodLink RX5 105 yX5_noOne, Cond.instanceMethod yX5_noOne, Cond.selects RX5 yX5_noOne yX5_noOne, Cond.initialized RX5, Cond.code yX5_noOne cX5_noOne 2 (some .boolean), Cond.fieldLink RX5 60 "GorgeRowModel" "walkers" "I", Cond.methodLink RX5 63 yX5_in, Cond.static yX5_in, Cond.code yX5_in cX5_in 6 (some .boolean), Cond.methodLink RX5 113 yX5_has, Cond.static yX5_has, Cond.code yX5_has cX5_has 2 (some .boolean), Cond.methodLink RX5 148 yX5_begin, Cond.instanceMethod yX5_begin, Cond.selects RX5 yX5_begin yX5_begin, Cond.code yX5_begin cX5_begin 2 none, Cond.methodLink RX5 127 yX5_goMinute, Cond.instanceMethod yX5_goMinute, Cond.selects RX5 yX5_goMinute yX5_goMinute]
def wsX5_bears_r2 : List Cond := [Cond.code yX5_goMinute cX5_goMinute 7 (some .int), Cond.fieldLink RX5 23 "GorgeRowModel" "kind" "[I", Cond.fieldLink RX5 20 "GorgeRowModel" "nerve" "[I", Cond.methodLink RX5 117 yX5_isHeard, Cond.instanceMethod yX5_isHeard, Cond.selects RX5 yX5_isHeard yX5_isHeard, Cond.code yX5_isHeard cX5_isHeard 5 (some .boolean), Cond.fieldLink RX5 17 "GorgeRowModel" "water" "I"]
def wsX5_bears : List Cond := .code yX5_bears cX5_bears 3 (some .int) :: ((wsX5_bears_r1 ++ wsX5_bears_r2) ++ wsX50)
def wsX5_ten : List Cond := .code yX5_ten cX5_ten 3 (some .int) :: ([])
def wsX5_still : List Cond := .code yX5_still cX5_still 10 (some .int) :: ([.fieldLink RX5 57 "GorgeRowModel" "thrown" "I", .constantLong RX5 186 (4), .constantLong RX5 188 (10), .methodLink RX5 63 yX5_in, .static yX5_in, .initialized RX5, .code yX5_in cX5_in 6 (some .boolean), .methodLink RX5 190 yX5_ten, .static yX5_ten, .code yX5_ten cX5_ten 3 (some .int), .methodLink RX5 113 yX5_has, .static yX5_has, .code yX5_has cX5_has 2 (some .boolean), .methodLink RX5 182 yX5_fraction, .static yX5_fraction, .code yX5_fraction cX5_fraction 4 (some .int), .methodLink RX5 168 yX5_divisor, .static yX5_divisor, .code yX5_divisor cX5_divisor 5 (some .int)] ++ wsX50)
def wsX5_pebbles : List Cond := .code yX5_pebbles cX5_pebbles 6 (some .int) :: ([.fieldLink RX5 57 "GorgeRowModel" "thrown" "I", .constantLong RX5 138 (5), .constantLong RX5 193 (50), .methodLink RX5 63 yX5_in, .static yX5_in, .initialized RX5, .code yX5_in cX5_in 6 (some .boolean)] ++ wsX50)
def wsX5_tell : List Cond := .code yX5_tell cX5_tell 3 (some .int) :: ([.fieldLink RX5 57 "GorgeRowModel" "thrown" "I", .constantLong RX5 195 (8), .fieldLink RX5 102 "GorgeRowModel" "told" "I", .fieldLink RX5 48 "GorgeRowModel" "toldMinute" "[I", .fieldLink RX5 51 "GorgeRowModel" "toldHeard" "[Z", .methodLink RX5 63 yX5_in, .static yX5_in, .initialized RX5, .code yX5_in cX5_in 6 (some .boolean)] ++ wsX50)
def wsX5_untell : List Cond := .code yX5_untell cX5_untell 2 (some .int) :: ([.fieldLink RX5 57 "GorgeRowModel" "thrown" "I", .fieldLink RX5 102 "GorgeRowModel" "told" "I"] ++ wsX50)
def wsX5_letGo : List Cond := .code yX5_letGo cX5_letGo 7 (some .int) :: ([.fieldLink RX5 57 "GorgeRowModel" "thrown" "I", .fieldLink RX5 102 "GorgeRowModel" "told" "I", .fieldLink RX5 48 "GorgeRowModel" "toldMinute" "[I", .fieldLink RX5 51 "GorgeRowModel" "toldHeard" "[Z"] ++ wsX50)
def wsX5_link : List Cond := .code yX5_link cX5_link 11 (some .int) :: ([.fieldLink RX5 57 "GorgeRowModel" "thrown" "I", .constantLong RX5 138 (5), .constantLong RX5 188 (10), .constantLong RX5 197 (6), .methodLink RX5 63 yX5_in, .static yX5_in, .initialized RX5, .code yX5_in cX5_in 6 (some .boolean), .methodLink RX5 113 yX5_has, .static yX5_has, .code yX5_has cX5_has 2 (some .boolean), .methodLink RX5 190 yX5_ten, .static yX5_ten, .code yX5_ten cX5_ten 3 (some .int), .methodLink RX5 182 yX5_fraction, .static yX5_fraction, .code yX5_fraction cX5_fraction 4 (some .int), .methodLink RX5 168 yX5_divisor, .static yX5_divisor, .code yX5_divisor cX5_divisor 5 (some .int)] ++ wsX50)
def wsX5_seed : List Cond := .code yX5_seed cX5_seed 5 (some .long) :: ([.fieldLink RX5 57 "GorgeRowModel" "thrown" "I", .fieldLink RX5 199 "GorgeRowModel" "seed" "J"] ++ wsX50)
def wsX5_gorges_r1 : List Cond := [Cond.fieldLink RX5 57 "GorgeRowModel" "thrown" "I", Cond.constantLong RX5 203 (20), Cond.fieldLink RX5 35 "GorgeRowModel" "trial" "[I", Cond.fieldLink RX5 13 "GorgeRowModel" "light" "I", Cond.fieldLink RX5 199 "GorgeRowModel" "seed" "J", Cond.constantLong RX5 205 (6364136223846793005), Cond.constantLong RX5 207 (1442695040888963407), Cond.constantLong RX5 209 (32), Cond.methodLink RX5 63 yX5_in, Cond.static yX5_in, Cond.initialized RX5, Cond.code yX5_in cX5_in 6 (some .boolean), Cond.methodLink RX5 148 yX5_begin, Cond.instanceMethod yX5_begin, Cond.selects RX5 yX5_begin yX5_begin, Cond.code yX5_begin cX5_begin 2 none, Cond.fieldLink RX5 32 "GorgeRowModel" "page" "[I", Cond.methodLink RX5 127 yX5_goMinute, Cond.instanceMethod yX5_goMinute, Cond.selects RX5 yX5_goMinute yX5_goMinute, Cond.code yX5_goMinute cX5_goMinute 7 (some .int), Cond.fieldLink RX5 23 "GorgeRowModel" "kind" "[I", Cond.fieldLink RX5 121 "GorgeRowModel" "turned" "I", Cond.fieldLink RX5 20 "GorgeRowModel" "nerve" "[I"]
def wsX5_gorges_r2 : List Cond := [Cond.methodLink RX5 117 yX5_isHeard, Cond.instanceMethod yX5_isHeard, Cond.selects RX5 yX5_isHeard yX5_isHeard, Cond.code yX5_isHeard cX5_isHeard 5 (some .boolean), Cond.fieldLink RX5 17 "GorgeRowModel" "water" "I", Cond.methodLink RX5 113 yX5_has, Cond.static yX5_has, Cond.code yX5_has cX5_has 2 (some .boolean)]
def wsX5_gorges : List Cond := .code yX5_gorges cX5_gorges 4 (some .int) :: ((wsX5_gorges_r1 ++ wsX5_gorges_r2) ++ wsX50)
def wsX5_keep : List Cond := .code yX5_keep cX5_keep 3 (some .int) :: ([.fieldLink RX5 57 "GorgeRowModel" "thrown" "I", .fieldLink RX5 44 "GorgeRowModel" "isKept" "[Z", .fieldLink RX5 41 "GorgeRowModel" "kept" "[I", .fieldLink RX5 32 "GorgeRowModel" "page" "[I", .methodLink RX5 63 yX5_in, .static yX5_in, .initialized RX5, .code yX5_in cX5_in 6 (some .boolean)] ++ wsX50)
def wsX5_again : List Cond := .code yX5_again cX5_again 3 (some .int) :: ([.fieldLink RX5 57 "GorgeRowModel" "thrown" "I", .fieldLink RX5 44 "GorgeRowModel" "isKept" "[Z", .fieldLink RX5 32 "GorgeRowModel" "page" "[I", .fieldLink RX5 41 "GorgeRowModel" "kept" "[I", .fieldLink RX5 92 "GorgeRowModel" "acts" "I", .methodLink RX5 63 yX5_in, .static yX5_in, .initialized RX5, .code yX5_in cX5_in 6 (some .boolean)] ++ wsX50)
def wsJ9_abs_067f4 : List Cond := .code yJ9_abs_067f4 cJ9_abs_067f4 2 (some .long) :: ([])
def wsJ9_max_7cf53 : List Cond := .code yJ9_max_7cf53 cJ9_max_7cf53 2 (some .int) :: ([])
def wsL_law_r1 : List Cond := [Cond.classLink RL 7 RX4, Cond.instantiable RX4 11, Cond.initialized RX4, Cond.classLink RL 10 RX5, Cond.instantiable RX5 28, Cond.initialized RX5, Cond.constantLong RL 56 (4294967295), Cond.methodLink RL 9 yX4_init, Cond.instanceMethod yX4_init, Cond.code yX4_init cX4_init 1 none, Cond.methodLink RX4 1 objectInit, Cond.instanceMethod objectInit, Cond.code objectInit ⟨#[0xb1]⟩ 1 none, Cond.classLink RX4 7 RX2, Cond.instantiable RX2 2, Cond.initialized RX2, Cond.fieldLink RX4 10 "GorgeRow" "text" "LGorgeRow$Text;", Cond.classLink RX4 16 RX1, Cond.instantiable RX1 5, Cond.initialized RX1, Cond.fieldLink RX4 19 "GorgeRow" "path" "LGorgeRow$Path;", Cond.classLink RX4 23 RX3, Cond.instantiable RX3 5, Cond.initialized RX3]
def wsL_law_r2 : List Cond := [Cond.fieldLink RX4 28 "GorgeRow" "now" "LGorgeRow$Walk;", Cond.fieldLink RX4 32 "GorgeRow" "trial" "LGorgeRow$Walk;", Cond.arrayClass .long, Cond.fieldLink RX4 35 "GorgeRow" "acts" "[J", Cond.fieldLink RX4 39 "GorgeRow" "actCount" "I", Cond.constantLong RX4 43 (-1), Cond.fieldLink RX4 45 "GorgeRow" "kept" "[J", Cond.fieldLink RX4 48 "GorgeRow" "heardMinutes" "I", Cond.fieldLink RX4 51 "GorgeRow" "silentMinutes" "I", Cond.fieldLink RX4 54 "GorgeRow" "toldCount" "I", Cond.fieldLink RX4 57 "GorgeRow" "seedNow" "J", Cond.instanceMethod yX2_init, Cond.code yX2_init cX2_init 1 none, Cond.methodLink RX2 3 objectInit, Cond.arrayClass .int, Cond.fieldLink RX2 9 "GorgeRow$Text" "bytes" "[I", Cond.fieldLink RX2 15 "GorgeRow$Text" "length" "I", Cond.instanceMethod yX1_init, Cond.code yX1_init cX1_init 1 none, Cond.methodLink RX1 1 objectInit, Cond.fieldLink RX1 7 "GorgeRow$Path" "walkers" "I", Cond.fieldLink RX1 13 "GorgeRow$Path" "light" "I", Cond.fieldLink RX1 16 "GorgeRow$Path" "water" "I", Cond.fieldLink RX1 19 "GorgeRow$Path" "nerves" "I"]
def wsL_law_r3 : List Cond := [Cond.fieldLink RX1 22 "GorgeRow$Path" "kinds" "I", Cond.methodLink RX4 25 yX3_init, Cond.instanceMethod yX3_init, Cond.code yX3_init cX3_init 2 none, Cond.methodLink RX3 5 objectInit, Cond.fieldLink RX3 11 "GorgeRow$Walk" "row" "I", Cond.fieldLink RX3 15 "GorgeRow$Walk" "quiets" "I", Cond.fieldLink RX3 18 "GorgeRow$Walk" "place" "I", Cond.fieldLink RX3 21 "GorgeRow$Walk" "turned" "I", Cond.fieldLink RX3 24 "GorgeRow$Walk" "path" "LGorgeRow$Path;", Cond.methodLink RL 12 yX5_init, Cond.instanceMethod yX5_init, Cond.code yX5_init cX5_init 1 none, Cond.methodLink RX5 1 objectInit, Cond.fieldLink RX5 7 "GorgeRowModel" "text" "[I", Cond.fieldLink RX5 13 "GorgeRowModel" "light" "I", Cond.fieldLink RX5 17 "GorgeRowModel" "water" "I", Cond.fieldLink RX5 20 "GorgeRowModel" "nerve" "[I", Cond.fieldLink RX5 23 "GorgeRowModel" "kind" "[I", Cond.fieldLink RX5 26 "GorgeRowModel" "readNerve" "[I", Cond.fieldLink RX5 29 "GorgeRowModel" "readKind" "[I", Cond.fieldLink RX5 32 "GorgeRowModel" "page" "[I", Cond.fieldLink RX5 35 "GorgeRowModel" "trial" "[I", Cond.fieldLink RX5 38 "GorgeRowModel" "book" "[I"]
def wsL_law_r4 : List Cond := [Cond.fieldLink RX5 41 "GorgeRowModel" "kept" "[I", Cond.arrayClass .boolean, Cond.fieldLink RX5 44 "GorgeRowModel" "isKept" "[Z", Cond.fieldLink RX5 48 "GorgeRowModel" "toldMinute" "[I", Cond.fieldLink RX5 51 "GorgeRowModel" "toldHeard" "[Z", Cond.fieldLink RX5 54 "GorgeRowModel" "worth" "[I", Cond.methodLink RL 13 yX4_write, Cond.instanceMethod yX4_write, Cond.selects RX4 yX4_write yX4_write, Cond.code yX4_write cX4_write 2 (some .int), Cond.methodLink RX4 61 yX4_within, Cond.static yX4_within, Cond.code yX4_within cX4_within 3 (some .boolean), Cond.methodLink RX4 65 yX2_append, Cond.instanceMethod yX2_append, Cond.selects RX2 yX2_append yX2_append, Cond.code yX2_append cX2_append 2 (some .boolean), Cond.methodLink RX4 69 yX2_length, Cond.instanceMethod yX2_length, Cond.selects RX2 yX2_length yX2_length, Cond.code yX2_length cX2_length 1 (some .int), Cond.methodLink RL 17 yX5_write, Cond.instanceMethod yX5_write, Cond.selects RX5 yX5_write yX5_write]
def wsL_law_r5 : List Cond := [Cond.code yX5_write cX5_write 2 (some .int), Cond.fieldLink RX5 57 "GorgeRowModel" "thrown" "I", Cond.constantLong RX5 67 (255), Cond.fieldLink RX5 69 "GorgeRowModel" "textSize" "I", Cond.methodLink RX5 63 yX5_in, Cond.static yX5_in, Cond.code yX5_in cX5_in 6 (some .boolean), Cond.methodLink RL 18 yX4_wipe, Cond.instanceMethod yX4_wipe, Cond.selects RX4 yX4_wipe yX4_wipe, Cond.code yX4_wipe cX4_wipe 2 (some .int), Cond.methodLink RX4 73 yX2_clear, Cond.instanceMethod yX2_clear, Cond.selects RX2 yX2_clear yX2_clear, Cond.code yX2_clear cX2_clear 1 none, Cond.methodLink RL 22 yX5_wipe, Cond.instanceMethod yX5_wipe, Cond.selects RX5 yX5_wipe yX5_wipe, Cond.code yX5_wipe cX5_wipe 2 (some .int), Cond.methodLink RL 23 yX4_fault, Cond.instanceMethod yX4_fault, Cond.selects RX4 yX4_fault yX4_fault, Cond.code yX4_fault cX4_fault 1 (some .int), Cond.methodLink RX4 76 yX2_firstFault]
def wsL_law_r6 : List Cond := [Cond.instanceMethod yX2_firstFault, Cond.selects RX2 yX2_firstFault yX2_firstFault, Cond.code yX2_firstFault cX2_firstFault 2 (some .int), Cond.methodLink RX2 26 yX2_fits, Cond.instanceMethod yX2_fits, Cond.selects RX2 yX2_fits yX2_fits, Cond.code yX2_fits cX2_fits 2 (some .boolean), Cond.methodLink RX2 19 yX2_byteAt, Cond.instanceMethod yX2_byteAt, Cond.selects RX2 yX2_byteAt yX2_byteAt, Cond.code yX2_byteAt cX2_byteAt 2 (some .int), Cond.methodLink RX2 23 yX2_figure, Cond.instanceMethod yX2_figure, Cond.selects RX2 yX2_figure yX2_figure, Cond.code yX2_figure cX2_figure 2 (some .int), Cond.methodLink RX2 34 yX2_fitsPart, Cond.instanceMethod yX2_fitsPart, Cond.selects RX2 yX2_fitsPart yX2_fitsPart, Cond.code yX2_fitsPart cX2_fitsPart 2 (some .boolean), Cond.methodLink RL 26 yX5_fault, Cond.instanceMethod yX5_fault, Cond.selects RX5 yX5_fault yX5_fault, Cond.code yX5_fault cX5_fault 1 (some .int), Cond.methodLink RX5 88 yX5_readGorge]
def wsL_law_r7 : List Cond := [Cond.instanceMethod yX5_readGorge, Cond.selects RX5 yX5_readGorge yX5_readGorge, Cond.code yX5_readGorge cX5_readGorge 3 (some .int), Cond.fieldLink RX5 72 "GorgeRowModel" "place" "I", Cond.fieldLink RX5 75 "GorgeRowModel" "readWalkers" "I", Cond.fieldLink RX5 82 "GorgeRowModel" "readLight" "I", Cond.fieldLink RX5 85 "GorgeRowModel" "readWater" "I", Cond.methodLink RX5 78 yX5_figure, Cond.instanceMethod yX5_figure, Cond.selects RX5 yX5_figure yX5_figure, Cond.code yX5_figure cX5_figure 3 (some .int), Cond.methodLink RL 27 yX4_gorge, Cond.instanceMethod yX4_gorge, Cond.selects RX4 yX4_gorge yX4_gorge, Cond.code yX4_gorge cX4_gorge 1 (some .int), Cond.methodLink RX4 79 yX1_read, Cond.instanceMethod yX1_read, Cond.selects RX1 yX1_read yX1_read, Cond.code yX1_read cX1_read 3 none, Cond.methodLink RX1 25 yX2_figure, Cond.methodLink RX1 31 yX2_parts, Cond.instanceMethod yX2_parts, Cond.selects RX2 yX2_parts yX2_parts, Cond.code yX2_parts cX2_parts 1 (some .int)]
def wsL_law_r8 : List Cond := [Cond.methodLink RX1 35 yX2_nerve, Cond.instanceMethod yX2_nerve, Cond.selects RX2 yX2_nerve yX2_nerve, Cond.code yX2_nerve cX2_nerve 2 (some .int), Cond.methodLink RX1 38 yX0_with, Cond.static yX0_with, Cond.initialized RX0, Cond.code yX0_with cX0_with 3 (some .int), Cond.methodLink RX1 44 yX2_kind, Cond.instanceMethod yX2_kind, Cond.selects RX2 yX2_kind yX2_kind, Cond.code yX2_kind cX2_kind 2 (some .int), Cond.methodLink RX4 83 yX3_start, Cond.instanceMethod yX3_start, Cond.selects RX3 yX3_start yX3_start, Cond.code yX3_start cX3_start 1 none, Cond.methodLink RX3 55 yX1_everybody, Cond.instanceMethod yX1_everybody, Cond.selects RX1 yX1_everybody yX1_everybody, Cond.code yX1_everybody cX1_everybody 1 (some .int), Cond.methodLink RX3 58 yX0_ascending, Cond.static yX0_ascending, Cond.code yX0_ascending cX0_ascending 4 (some .int), Cond.methodLink RX0 15 yX0_with]
def wsL_law_r9 : List Cond := [Cond.methodLink RX3 61 yX3_lineUp, Cond.instanceMethod yX3_lineUp, Cond.selects RX3 yX3_lineUp yX3_lineUp, Cond.code yX3_lineUp cX3_lineUp 3 none, Cond.methodLink RX4 86 yX4_forgetKept, Cond.instanceMethod yX4_forgetKept, Cond.selects RX4 yX4_forgetKept yX4_forgetKept, Cond.code yX4_forgetKept cX4_forgetKept 2 none, Cond.methodLink RX4 89 yX1_walkers, Cond.instanceMethod yX1_walkers, Cond.selects RX1 yX1_walkers yX1_walkers, Cond.code yX1_walkers cX1_walkers 1 (some .int), Cond.methodLink RL 30 yX5_gorge, Cond.instanceMethod yX5_gorge, Cond.selects RX5 yX5_gorge yX5_gorge, Cond.code yX5_gorge cX5_gorge 2 (some .int), Cond.fieldLink RX5 60 "GorgeRowModel" "walkers" "I", Cond.fieldLink RX5 92 "GorgeRowModel" "acts" "I", Cond.methodLink RL 31 yX4_about, Cond.instanceMethod yX4_about, Cond.selects RX4 yX4_about yX4_about, Cond.code yX4_about cX4_about 2 (some .int), Cond.methodLink RX4 92 yX1_light, Cond.instanceMethod yX1_light]
def wsL_law_r10 : List Cond := [Cond.selects RX1 yX1_light yX1_light, Cond.code yX1_light cX1_light 1 (some .int), Cond.methodLink RX4 95 yX1_water, Cond.instanceMethod yX1_water, Cond.selects RX1 yX1_water yX1_water, Cond.code yX1_water cX1_water 1 (some .int), Cond.methodLink RX4 98 yX3_place, Cond.instanceMethod yX3_place, Cond.selects RX3 yX3_place yX3_place, Cond.code yX3_place cX3_place 1 (some .int), Cond.methodLink RX4 101 yX3_members, Cond.instanceMethod yX3_members, Cond.selects RX3 yX3_members yX3_members, Cond.code yX3_members cX3_members 1 (some .int), Cond.methodLink RX3 34 yX0_members, Cond.static yX0_members, Cond.code yX0_members cX0_members 3 (some .int), Cond.methodLink RX0 19 yX0_size, Cond.static yX0_size, Cond.code yX0_size cX0_size 2 (some .int), Cond.methodLink RX0 9 yX0_at, Cond.static yX0_at, Cond.code yX0_at cX0_at 2 (some .int), Cond.methodLink RX4 104 yX1_everybody]
def wsL_law_r11 : List Cond := [Cond.methodLink RX4 107 yX3_row, Cond.instanceMethod yX3_row, Cond.selects RX3 yX3_row yX3_row, Cond.code yX3_row cX3_row 1 (some .int), Cond.methodLink RX4 110 yX0_figures, Cond.static yX0_figures, Cond.code yX0_figures cX0_figures 3 (some .int), Cond.methodLink RX4 116 yX3_isOut, Cond.instanceMethod yX3_isOut, Cond.selects RX3 yX3_isOut yX3_isOut, Cond.code yX3_isOut cX3_isOut 1 (some .boolean), Cond.methodLink RX3 37 yX1_light, Cond.methodLink RL 34 yX5_about, Cond.instanceMethod yX5_about, Cond.selects RX5 yX5_about yX5_about, Cond.code yX5_about cX5_about 2 (some .int), Cond.fieldLink RX5 102 "GorgeRowModel" "told" "I", Cond.methodLink RX5 95 yX5_rowOf, Cond.static yX5_rowOf, Cond.code yX5_rowOf cX5_rowOf 3 (some .int), Cond.methodLink RX5 99 yX5_figuresOf, Cond.static yX5_figuresOf, Cond.code yX5_figuresOf cX5_figuresOf 3 (some .int), Cond.methodLink RL 35 yX4_walker]
def wsL_law_r12 : List Cond := [Cond.instanceMethod yX4_walker, Cond.selects RX4 yX4_walker yX4_walker, Cond.code yX4_walker cX4_walker 3 (some .int), Cond.methodLink RX4 120 yX1_has, Cond.instanceMethod yX1_has, Cond.selects RX1 yX1_has yX1_has, Cond.code yX1_has cX1_has 2 (some .boolean), Cond.methodLink RX4 123 yX1_nerve, Cond.instanceMethod yX1_nerve, Cond.selects RX1 yX1_nerve yX1_nerve, Cond.code yX1_nerve cX1_nerve 2 (some .int), Cond.methodLink RX1 53 yX0_at, Cond.methodLink RX4 126 yX1_kind, Cond.instanceMethod yX1_kind, Cond.selects RX1 yX1_kind yX1_kind, Cond.code yX1_kind cX1_kind 2 (some .int), Cond.methodLink RX4 129 yX3_quiet, Cond.instanceMethod yX3_quiet, Cond.selects RX3 yX3_quiet yX3_quiet, Cond.code yX3_quiet cX3_quiet 2 (some .int), Cond.methodLink RX3 43 yX0_at, Cond.methodLink RX4 132 yX3_indexOf, Cond.instanceMethod yX3_indexOf, Cond.selects RX3 yX3_indexOf yX3_indexOf]
def wsL_law_r13 : List Cond := [Cond.code yX3_indexOf cX3_indexOf 3 (some .int), Cond.methodLink RX3 47 yX3_size, Cond.instanceMethod yX3_size, Cond.selects RX3 yX3_size yX3_size, Cond.code yX3_size cX3_size 1 (some .int), Cond.methodLink RX3 28 yX0_size, Cond.methodLink RX3 49 yX3_walkerAt, Cond.instanceMethod yX3_walkerAt, Cond.selects RX3 yX3_walkerAt yX3_walkerAt, Cond.code yX3_walkerAt cX3_walkerAt 2 (some .int), Cond.methodLink RX4 135 yX3_behind, Cond.instanceMethod yX3_behind, Cond.selects RX3 yX3_behind yX3_behind, Cond.code yX3_behind cX3_behind 3 (some .int), Cond.methodLink RX3 52 yX3_indexOf, Cond.methodLink RL 39 yX5_walker, Cond.instanceMethod yX5_walker, Cond.selects RX5 yX5_walker yX5_walker, Cond.code yX5_walker cX5_walker 4 (some .int), Cond.methodLink RX5 105 yX5_noOne, Cond.instanceMethod yX5_noOne, Cond.selects RX5 yX5_noOne yX5_noOne, Cond.code yX5_noOne cX5_noOne 2 (some .boolean), Cond.methodLink RX5 109 yX5_placeOf]
def wsL_law_r14 : List Cond := [Cond.static yX5_placeOf, Cond.code yX5_placeOf cX5_placeOf 4 (some .int), Cond.methodLink RL 40 yX4_minute, Cond.instanceMethod yX4_minute, Cond.selects RX4 yX4_minute yX4_minute, Cond.code yX4_minute cX4_minute 2 (some .int), Cond.methodLink RX4 138 yX4_remember, Cond.instanceMethod yX4_remember, Cond.selects RX4 yX4_remember yX4_remember, Cond.code yX4_remember cX4_remember 1 none, Cond.methodLink RX4 158 arraycopyName, Cond.native arraycopyName, Cond.static arraycopyName, Cond.initialized "java/lang/System", Cond.methodLink RX4 164 yX3_state, Cond.instanceMethod yX3_state, Cond.selects RX3 yX3_state yX3_state, Cond.code yX3_state cX3_state 1 (some .long), Cond.methodLink RX4 141 yX3_step, Cond.instanceMethod yX3_step, Cond.selects RX3 yX3_step yX3_step, Cond.code yX3_step cX3_step 6 (some .int), Cond.methodLink RX3 87 yX1_kind, Cond.methodLink RX3 90 yX3_isHeard]
def wsL_law_r15 : List Cond := [Cond.instanceMethod yX3_isHeard, Cond.selects RX3 yX3_isHeard yX3_isHeard, Cond.code yX3_isHeard cX3_isHeard 6 (some .boolean), Cond.methodLink RX3 97 yX1_water, Cond.methodLink RX3 73 yX3_quiet, Cond.methodLink RX3 70 yX3_setQuiet, Cond.instanceMethod yX3_setQuiet, Cond.selects RX3 yX3_setQuiet yX3_setQuiet, Cond.code yX3_setQuiet cX3_setQuiet 3 none, Cond.methodLink RX3 106 yX0_with, Cond.methodLink RX3 94 yX3_turnRound, Cond.instanceMethod yX3_turnRound, Cond.selects RX3 yX3_turnRound yX3_turnRound, Cond.code yX3_turnRound cX3_turnRound 4 (some .int), Cond.methodLink RX3 100 yX1_nerve, Cond.methodLink RX3 103 yX0_without, Cond.static yX0_without, Cond.code yX0_without cX0_without 3 (some .int), Cond.methodLink RL 43 yX5_minute, Cond.instanceMethod yX5_minute, Cond.selects RX5 yX5_minute yX5_minute, Cond.code yX5_minute cX5_minute 2 (some .int), Cond.methodLink RX5 124 yX5_note, Cond.instanceMethod yX5_note]
def wsL_law_r16 : List Cond := [Cond.selects RX5 yX5_note yX5_note, Cond.code yX5_note cX5_note 2 none, Cond.methodLink RX5 127 yX5_goMinute, Cond.instanceMethod yX5_goMinute, Cond.selects RX5 yX5_goMinute yX5_goMinute, Cond.code yX5_goMinute cX5_goMinute 7 (some .int), Cond.fieldLink RX5 121 "GorgeRowModel" "turned" "I", Cond.methodLink RX5 117 yX5_isHeard, Cond.instanceMethod yX5_isHeard, Cond.selects RX5 yX5_isHeard yX5_isHeard, Cond.code yX5_isHeard cX5_isHeard 5 (some .boolean), Cond.methodLink RX5 113 yX5_has, Cond.static yX5_has, Cond.code yX5_has cX5_has 2 (some .boolean), Cond.methodLink RL 44 yX4_change, Cond.instanceMethod yX4_change, Cond.selects RX4 yX4_change yX4_change, Cond.code yX4_change cX4_change 2 (some .int), Cond.methodLink RX4 144 yX3_size, Cond.methodLink RX4 147 yX3_changePlaces, Cond.instanceMethod yX3_changePlaces, Cond.selects RX3 yX3_changePlaces yX3_changePlaces, Cond.code yX3_changePlaces cX3_changePlaces 2 none, Cond.methodLink RX3 66 yX0_swapped]
def wsL_law_r17 : List Cond := [Cond.static yX0_swapped, Cond.code yX0_swapped cX0_swapped 3 (some .int), Cond.methodLink RL 47 yX5_change, Cond.instanceMethod yX5_change, Cond.selects RX5 yX5_change yX5_change, Cond.code yX5_change cX5_change 3 (some .int), Cond.constantLong RX5 130 (3), Cond.methodLink RL 48 yX4_rest, Cond.instanceMethod yX4_rest, Cond.selects RX4 yX4_rest yX4_rest, Cond.code yX4_rest cX4_rest 1 (some .int), Cond.methodLink RX4 151 yX3_calm, Cond.instanceMethod yX3_calm, Cond.selects RX3 yX3_calm yX3_calm, Cond.code yX3_calm cX3_calm 3 (some .int), Cond.methodLink RL 51 yX5_rest, Cond.instanceMethod yX5_rest, Cond.selects RX5 yX5_rest yX5_rest, Cond.code yX5_rest cX5_rest 3 (some .int), Cond.methodLink RL 52 yX4_undo, Cond.instanceMethod yX4_undo, Cond.selects RX4 yX4_undo yX4_undo, Cond.code yX4_undo cX4_undo 1 (some .int), Cond.methodLink RX4 154 yX3_become]
def wsL_law_r18 : List Cond := [Cond.instanceMethod yX3_become, Cond.selects RX3 yX3_become yX3_become, Cond.code yX3_become cX3_become 3 none, Cond.constant RX3 65 (1048575), Cond.methodLink RL 55 yX5_undo, Cond.instanceMethod yX5_undo, Cond.selects RX5 yX5_undo yX5_undo, Cond.code yX5_undo cX5_undo 2 (some .int), Cond.methodLink RL 58 yX4_left, Cond.instanceMethod yX4_left, Cond.selects RX4 yX4_left yX4_left, Cond.code yX4_left cX4_left 4 (some .int), Cond.methodLink RX4 168 yX4_isSong, Cond.static yX4_isSong, Cond.code yX4_isSong cX4_isSong 6 (some .boolean), Cond.constantLong RX4 209 (100), Cond.constantLong RX4 211 (31), Cond.methodLink RX4 172 yX3_sing, Cond.instanceMethod yX3_sing, Cond.selects RX3 yX3_sing yX3_sing, Cond.code yX3_sing cX3_sing 6 (some .int), Cond.methodLink RX3 76 yX3_isOut, Cond.methodLink RX3 80 yX3_treadsOf, Cond.static yX3_treadsOf]
def wsL_law_r19 : List Cond := [Cond.code yX3_treadsOf cX3_treadsOf 6 (some .int), Cond.constantLong RX3 109 (100), Cond.methodLink RX3 84 yX3_step, Cond.methodLink RL 62 yX5_left, Cond.instanceMethod yX5_left, Cond.selects RX5 yX5_left yX5_left, Cond.code yX5_left cX5_left 4 (some .int), Cond.methodLink RX5 144 yX5_noSong, Cond.static yX5_noSong, Cond.code yX5_noSong cX5_noSong 5 (some .boolean), Cond.constantLong RX5 138 (5), Cond.methodLink RX5 134 yX5_hundred, Cond.static yX5_hundred, Cond.code yX5_hundred cX5_hundred 4 (some .long), Cond.constantLong RX5 132 (100), Cond.methodLink RX5 140 yX5_treadsOf, Cond.static yX5_treadsOf, Cond.code yX5_treadsOf cX5_treadsOf 4 (some .int), Cond.methodLink RX5 148 yX5_begin, Cond.instanceMethod yX5_begin, Cond.selects RX5 yX5_begin yX5_begin, Cond.code yX5_begin cX5_begin 2 none, Cond.methodLink RX5 151 yX5_sing, Cond.instanceMethod yX5_sing]
def wsL_law_r20 : List Cond := [Cond.selects RX5 yX5_sing yX5_sing, Cond.code yX5_sing cX5_sing 7 (some .int), Cond.methodLink RL 63 yX4_firstTurn, Cond.instanceMethod yX4_firstTurn, Cond.selects RX4 yX4_firstTurn yX4_firstTurn, Cond.code yX4_firstTurn cX4_firstTurn 4 (some .int), Cond.methodLink RL 66 yX5_firstTurn, Cond.instanceMethod yX5_firstTurn, Cond.selects RX5 yX5_firstTurn yX5_firstTurn, Cond.code yX5_firstTurn cX5_firstTurn 4 (some .int), Cond.methodLink RL 67 yX4_order, Cond.instanceMethod yX4_order, Cond.selects RX4 yX4_order yX4_order, Cond.code yX4_order cX4_order 10 (some .int), Cond.methodLink RX4 176 yX0_ascending, Cond.methodLink RX4 179 yX4_leftOf, Cond.instanceMethod yX4_leftOf, Cond.selects RX4 yX4_leftOf yX4_leftOf, Cond.code yX4_leftOf cX4_leftOf 5 (some .int), Cond.methodLink RX4 205 yX3_lineUp, Cond.methodLink RX4 183 yX0_nextOrder, Cond.static yX0_nextOrder, Cond.code yX0_nextOrder cX0_nextOrder 7 (some .int), Cond.methodLink RX0 26 yX0_swapped]
def wsL_law_r21 : List Cond := [Cond.methodLink RL 71 yX5_order, Cond.instanceMethod yX5_order, Cond.selects RX5 yX5_order yX5_order, Cond.code yX5_order cX5_order 5 (some .int), Cond.fieldLink RX5 155 "GorgeRowModel" "orderBest" "I", Cond.fieldLink RX5 158 "GorgeRowModel" "orderMany" "I", Cond.methodLink RX5 164 yX5_findOrder, Cond.instanceMethod yX5_findOrder, Cond.selects RX5 yX5_findOrder yX5_findOrder, Cond.code yX5_findOrder cX5_findOrder 11 none, Cond.methodLink RX5 161 yX5_hush, Cond.instanceMethod yX5_hush, Cond.selects RX5 yX5_hush yX5_hush, Cond.code yX5_hush cX5_hush 2 none, Cond.methodLink RL 72 yX4_share, Cond.instanceMethod yX4_share, Cond.selects RX4 yX4_share yX4_share, Cond.code yX4_share cX4_share 14 (some .int), Cond.methodLink RX4 186 yX4_fraction, Cond.static yX4_fraction, Cond.code yX4_fraction cX4_fraction 7 (some .int), Cond.methodLink RX4 234 Lib.MathLoose.abs_long.x, Cond.static Lib.MathLoose.abs_long.x, Cond.initialized "java/lang/Math"]
def wsL_law_r22 : List Cond := [Cond.code Lib.MathLoose.abs_long.x Lib.MathLoose.abs_long.code 2 (some .long), Cond.methodLink RX4 238 yX4_commonDivisor, Cond.static yX4_commonDivisor, Cond.code yX4_commonDivisor cX4_commonDivisor 11 (some .long), Cond.methodLink RX4 190 yJ6_bitCount_0f7a4, Cond.static yJ6_bitCount_0f7a4, Cond.initialized RJ6, Cond.code yJ6_bitCount_0f7a4 cJ6_bitCount_0f7a4 1 (some .int), Cond.constant RJ6 265 (1431655765), Cond.constant RJ6 266 (858993459), Cond.constant RJ6 267 (252645135), Cond.methodLink RX4 195 yX0_only, Cond.static yX0_only, Cond.code yX0_only cX0_only 4 (some .int), Cond.methodLink RX0 23 yX0_without, Cond.methodLink RX4 199 yX4_factorial, Cond.static yX4_factorial, Cond.code yX4_factorial cX4_factorial 3 (some .int), Cond.methodLink RL 76 yX5_share, Cond.instanceMethod yX5_share, Cond.selects RX5 yX5_share yX5_share, Cond.code yX5_share cX5_share 11 (some .int), Cond.methodLink RX5 171 yX5_worthOf, Cond.instanceMethod yX5_worthOf]
def wsL_law_r23 : List Cond := [Cond.selects RX5 yX5_worthOf yX5_worthOf, Cond.code yX5_worthOf cX5_worthOf 7 (some .int), Cond.methodLink RX5 175 yX5_many, Cond.static yX5_many, Cond.code yX5_many cX5_many 3 (some .int), Cond.methodLink RX5 179 yX5_orders, Cond.static yX5_orders, Cond.code yX5_orders cX5_orders 3 (some .int), Cond.methodLink RX5 182 yX5_fraction, Cond.static yX5_fraction, Cond.code yX5_fraction cX5_fraction 4 (some .int), Cond.methodLink RX5 168 yX5_divisor, Cond.static yX5_divisor, Cond.code yX5_divisor cX5_divisor 5 (some .int), Cond.methodLink RL 77 yX4_bears, Cond.instanceMethod yX4_bears, Cond.selects RX4 yX4_bears yX4_bears, Cond.code yX4_bears cX4_bears 4 (some .int), Cond.methodLink RX4 202 yX3_turned, Cond.instanceMethod yX3_turned, Cond.selects RX3 yX3_turned yX3_turned, Cond.code yX3_turned cX3_turned 1 (some .int), Cond.methodLink RL 80 yX5_bears, Cond.instanceMethod yX5_bears]
def wsL_law_r24 : List Cond := [Cond.selects RX5 yX5_bears yX5_bears, Cond.code yX5_bears cX5_bears 3 (some .int), Cond.methodLink RL 81 yX4_still, Cond.instanceMethod yX4_still, Cond.selects RX4 yX4_still yX4_still, Cond.code yX4_still cX4_still 12 (some .int), Cond.constantLong RX4 216 (10), Cond.methodLink RX4 213 yX4_isTenths, Cond.static yX4_isTenths, Cond.code yX4_isTenths cX4_isTenths 1 (some .boolean), Cond.methodLink RL 85 yX5_still, Cond.instanceMethod yX5_still, Cond.selects RX5 yX5_still yX5_still, Cond.code yX5_still cX5_still 10 (some .int), Cond.constantLong RX5 186 (4), Cond.constantLong RX5 188 (10), Cond.methodLink RX5 190 yX5_ten, Cond.static yX5_ten, Cond.code yX5_ten cX5_ten 3 (some .int), Cond.methodLink RL 86 yX4_pebbles, Cond.instanceMethod yX4_pebbles, Cond.selects RX4 yX4_pebbles yX4_pebbles, Cond.code yX4_pebbles cX4_pebbles 6 (some .int), Cond.methodLink RL 90 yX5_pebbles]
def wsL_law_r25 : List Cond := [Cond.instanceMethod yX5_pebbles, Cond.selects RX5 yX5_pebbles yX5_pebbles, Cond.code yX5_pebbles cX5_pebbles 6 (some .int), Cond.constantLong RX5 193 (50), Cond.methodLink RL 91 yX4_tell, Cond.instanceMethod yX4_tell, Cond.selects RX4 yX4_tell yX4_tell, Cond.code yX4_tell cX4_tell 3 (some .int), Cond.methodLink RL 95 yX5_tell, Cond.instanceMethod yX5_tell, Cond.selects RX5 yX5_tell yX5_tell, Cond.code yX5_tell cX5_tell 3 (some .int), Cond.constantLong RX5 195 (8), Cond.methodLink RL 96 yX4_untell, Cond.instanceMethod yX4_untell, Cond.selects RX4 yX4_untell yX4_untell, Cond.code yX4_untell cX4_untell 2 (some .int), Cond.methodLink RL 99 yX5_untell, Cond.instanceMethod yX5_untell, Cond.selects RX5 yX5_untell yX5_untell, Cond.code yX5_untell cX5_untell 2 (some .int), Cond.methodLink RL 100 yX4_letGo, Cond.instanceMethod yX4_letGo, Cond.selects RX4 yX4_letGo yX4_letGo]
def wsL_law_r26 : List Cond := [Cond.code yX4_letGo cX4_letGo 7 (some .int), Cond.methodLink RL 104 yX5_letGo, Cond.instanceMethod yX5_letGo, Cond.selects RX5 yX5_letGo yX5_letGo, Cond.code yX5_letGo cX5_letGo 7 (some .int), Cond.methodLink RL 105 yX4_link, Cond.instanceMethod yX4_link, Cond.selects RX4 yX4_link yX4_link, Cond.code yX4_link cX4_link 9 (some .int), Cond.methodLink RX4 218 yX4_longestSilence, Cond.static yX4_longestSilence, Cond.code yX4_longestSilence cX4_longestSilence 5 (some .int), Cond.methodLink RX4 229 Lib.Math.max.name, Cond.static Lib.Math.max.name, Cond.code Lib.Math.max.name Lib.Math.max.code 2 (some .int), Cond.methodLink RX4 221 yX4_power, Cond.static yX4_power, Cond.code yX4_power cX4_power 5 (some .long), Cond.methodLink RL 109 yX5_link, Cond.instanceMethod yX5_link, Cond.selects RX5 yX5_link yX5_link, Cond.code yX5_link cX5_link 11 (some .int), Cond.constantLong RX5 197 (6), Cond.methodLink RL 110 yX4_seed]
def wsL_law_r27 : List Cond := [Cond.instanceMethod yX4_seed, Cond.selects RX4 yX4_seed yX4_seed, Cond.code yX4_seed cX4_seed 5 (some .long), Cond.methodLink RL 114 yX5_seed, Cond.instanceMethod yX5_seed, Cond.selects RX5 yX5_seed yX5_seed, Cond.code yX5_seed cX5_seed 5 (some .long), Cond.fieldLink RX5 199 "GorgeRowModel" "seed" "J", Cond.methodLink RL 115 yX4_gorges, Cond.instanceMethod yX4_gorges, Cond.selects RX4 yX4_gorges yX4_gorges, Cond.code yX4_gorges cX4_gorges 6 (some .int), Cond.constantLong RX4 225 (6364136223846793005), Cond.constantLong RX4 227 (1442695040888963407), Cond.methodLink RL 118 yX5_gorges, Cond.instanceMethod yX5_gorges, Cond.selects RX5 yX5_gorges yX5_gorges, Cond.code yX5_gorges cX5_gorges 4 (some .int), Cond.constantLong RX5 203 (20), Cond.constantLong RX5 205 (6364136223846793005), Cond.constantLong RX5 207 (1442695040888963407), Cond.constantLong RX5 209 (32), Cond.methodLink RL 119 yX4_keep, Cond.instanceMethod yX4_keep]
def wsL_law_r28 : List Cond := [Cond.selects RX4 yX4_keep yX4_keep, Cond.code yX4_keep cX4_keep 2 (some .int), Cond.methodLink RL 122 yX5_keep, Cond.instanceMethod yX5_keep, Cond.selects RX5 yX5_keep yX5_keep, Cond.code yX5_keep cX5_keep 3 (some .int), Cond.methodLink RL 123 yX4_again, Cond.instanceMethod yX4_again, Cond.selects RX4 yX4_again yX4_again, Cond.code yX4_again cX4_again 2 (some .int), Cond.methodLink RL 126 yX5_again, Cond.instanceMethod yX5_again, Cond.selects RX5 yX5_again yX5_again, Cond.code yX5_again cX5_again 3 (some .int)]
def wsL_law : List Cond := (wsL_law_r1 ++ (wsL_law_r2 ++ (wsL_law_r3 ++ (wsL_law_r4 ++ (wsL_law_r5 ++ (wsL_law_r6 ++ (wsL_law_r7 ++ (wsL_law_r8 ++ (wsL_law_r9 ++ (wsL_law_r10 ++ (wsL_law_r11 ++ (wsL_law_r12 ++ (wsL_law_r13 ++ (wsL_law_r14 ++ (wsL_law_r15 ++ (wsL_law_r16 ++ (wsL_law_r17 ++ (wsL_law_r18 ++ (wsL_law_r19 ++ (wsL_law_r20 ++ (wsL_law_r21 ++ (wsL_law_r22 ++ (wsL_law_r23 ++ (wsL_law_r24 ++ (wsL_law_r25 ++ (wsL_law_r26 ++ (wsL_law_r27 ++ wsL_law_r28))))))))))))))))))))))))))) ++ wsX40 ++ wsX50 ++ wsX20 ++ wsX10 ++ wsX30 ++ ([] : List Cond)
set_option maxRecDepth 20000 in
theorem wsL_law_in : ∀ w ∈ wsL_law, w ∈ lw_tbl := fun w h => (goodIn_p wsL_law [35, 38, 43, 57, 79, 510, 136, 139, 143, 147, 601, 605, 151, 155, 609, 159, 163, 167, 171, 175, 180, 613, 617, 621, 184, 188, 193, 197, 200, 204, 208, 212, 215, 220, 224, 228, 625, 232, 236, 240, 244, 248, 251, 254, 257, 262, 265, 269, 629, 632, 635, 274, 278, 283, 288, 292, 297, 301, 306, 310, 639, 643, 646, 315, 319, 326, 330, 335, 341, 346, 350, 650, 654, 658, 662, 665, 354, 359, 362, 669, 366, 370, 674, 374, 378, 678, 383, 386, 392, 396, 682, 685, 689, 693, 697, 701, 402, 705, 406, 411, 415, 709, 713, 717, 420, 423, 426, 429, 432, 438, 442, 721, 725, 728, 731, 734, 737, 446, 450, 741, 454, 457, 745, 750, 462, 754, 466, 759, 470, 764, 474, 768, 478, 481, 484, 487, 772, 491, 777, 495, 781, 501, 789, 505, 793] (by decide +kernel) (by decide +kernel) w h).1
theorem inX0 : ∀ w ∈ wsX00, w ∈ lw_tbl := by decide +kernel
theorem inlX1 : ∀ w ∈ wsX10, w ∈ wsL_law := fun _ h => List.mem_append_left _ (List.mem_append_left _ (List.mem_append_right _ h))
theorem inX1 : ∀ w ∈ wsX10, w ∈ lw_tbl := fun w h => wsL_law_in w (inlX1 w h)
theorem inlX2 : ∀ w ∈ wsX20, w ∈ wsL_law := fun _ h => List.mem_append_left _ (List.mem_append_left _ (List.mem_append_left _ (List.mem_append_right _ h)))
theorem inX2 : ∀ w ∈ wsX20, w ∈ lw_tbl := fun w h => wsL_law_in w (inlX2 w h)
theorem inlX3 : ∀ w ∈ wsX30, w ∈ wsL_law := fun _ h => List.mem_append_left _ (List.mem_append_right _ h)
theorem inX3 : ∀ w ∈ wsX30, w ∈ lw_tbl := fun w h => wsL_law_in w (inlX3 w h)
theorem inlX4 : ∀ w ∈ wsX40, w ∈ wsL_law := fun _ h => List.mem_append_left _ (List.mem_append_left _ (List.mem_append_left _ (List.mem_append_left _ (List.mem_append_left _ (List.mem_append_right _ h)))))
theorem inX4 : ∀ w ∈ wsX40, w ∈ lw_tbl := fun w h => wsL_law_in w (inlX4 w h)
theorem inlX5 : ∀ w ∈ wsX50, w ∈ wsL_law := fun _ h => List.mem_append_left _ (List.mem_append_left _ (List.mem_append_left _ (List.mem_append_left _ (List.mem_append_right _ h))))
theorem inX5 : ∀ w ∈ wsX50, w ∈ lw_tbl := fun w h => wsL_law_in w (inlX5 w h)
theorem inJ6 : ∀ w ∈ wsJ60, w ∈ lw_tbl := by decide +kernel
theorem inJ9 : ∀ w ∈ wsJ90, w ∈ lw_tbl := by decide +kernel
theorem inJ10 : ∀ w ∈ wsJ100, w ∈ lw_tbl := by decide +kernel
theorem dX0_at_0 : decode cX0_at 0 = .ok (.iload_n 0, 1) := by decide +kernel
theorem dX0_at_1 : decode cX0_at 1 = .ok (.iconst 4, 1) := by decide +kernel
theorem dX0_at_2 : decode cX0_at 2 = .ok (.iload_n 1, 1) := by decide +kernel
theorem dX0_at_3 : decode cX0_at 3 = .ok (.imul, 1) := by decide +kernel
theorem dX0_at_4 : decode cX0_at 4 = .ok (.iushr, 1) := by decide +kernel
theorem dX0_at_5 : decode cX0_at 5 = .ok (.bipush 15, 2) := by decide +kernel
theorem dX0_at_7 : decode cX0_at 7 = .ok (.iand, 1) := by decide +kernel
theorem dX0_at_8 : decode cX0_at 8 = .ok (.ireturn, 1) := by decide +kernel
theorem dX0_with_0 : decode cX0_with 0 = .ok (.iload_n 0, 1) := by decide +kernel
theorem dX0_with_1 : decode cX0_with 1 = .ok (.bipush 15, 2) := by decide +kernel
theorem dX0_with_3 : decode cX0_with 3 = .ok (.iconst 4, 1) := by decide +kernel
theorem dX0_with_4 : decode cX0_with 4 = .ok (.iload_n 1, 1) := by decide +kernel
theorem dX0_with_5 : decode cX0_with 5 = .ok (.imul, 1) := by decide +kernel
theorem dX0_with_6 : decode cX0_with 6 = .ok (.ishl, 1) := by decide +kernel
theorem dX0_with_7 : decode cX0_with 7 = .ok (.iconst (-1), 1) := by decide +kernel
theorem dX0_with_8 : decode cX0_with 8 = .ok (.ixor, 1) := by decide +kernel
theorem dX0_with_9 : decode cX0_with 9 = .ok (.iand, 1) := by decide +kernel
theorem dX0_with_10 : decode cX0_with 10 = .ok (.iload_n 2, 1) := by decide +kernel
theorem dX0_with_11 : decode cX0_with 11 = .ok (.iconst 4, 1) := by decide +kernel
theorem dX0_with_12 : decode cX0_with 12 = .ok (.iload_n 1, 1) := by decide +kernel
theorem dX0_with_13 : decode cX0_with 13 = .ok (.imul, 1) := by decide +kernel
theorem dX0_with_14 : decode cX0_with 14 = .ok (.ishl, 1) := by decide +kernel
theorem dX0_with_15 : decode cX0_with 15 = .ok (.ior, 1) := by decide +kernel
theorem dX0_with_16 : decode cX0_with 16 = .ok (.ireturn, 1) := by decide +kernel
set_option maxRecDepth 20000 in
theorem ggX0_swapped_X0_at : GoodIn wsX0_swapped wsX0_at := goodIn_r _ [4] (by decide +kernel) (by decide +kernel)
set_option maxRecDepth 20000 in
theorem gX0_swapped_X0_at : GoodIn wsX0_swapped (va_wsS RX0 9 yX0_at wsX0_at) := goodIn_app (goodIn_of _ (by decide +kernel)) ggX0_swapped_X0_at
set_option maxRecDepth 20000 in
theorem ggX0_swapped_X0_with : GoodIn wsX0_swapped wsX0_with := goodIn_r _ [7] (by decide +kernel) (by decide +kernel)
set_option maxRecDepth 20000 in
theorem gX0_swapped_X0_with : GoodIn wsX0_swapped (va_wsS RX0 15 yX0_with wsX0_with) := goodIn_app (goodIn_of _ (by decide +kernel)) ggX0_swapped_X0_with
theorem dX0_swapped_0 : decode cX0_swapped 0 = .ok (.iload_n 0, 1) := by decide +kernel
theorem dX0_swapped_1 : decode cX0_swapped 1 = .ok (.iload_n 1, 1) := by decide +kernel
theorem dX0_swapped_2 : decode cX0_swapped 2 = .ok (.iload_n 0, 1) := by decide +kernel
theorem dX0_swapped_3 : decode cX0_swapped 3 = .ok (.iload_n 2, 1) := by decide +kernel
theorem dX0_swapped_4 : decode cX0_swapped 4 = .ok (.invokestatic 9, 3) := by decide +kernel
theorem dX0_swapped_7 : decode cX0_swapped 7 = .ok (.invokestatic 15, 3) := by decide +kernel
theorem dX0_swapped_10 : decode cX0_swapped 10 = .ok (.iload_n 2, 1) := by decide +kernel
theorem dX0_swapped_11 : decode cX0_swapped 11 = .ok (.iload_n 0, 1) := by decide +kernel
theorem dX0_swapped_12 : decode cX0_swapped 12 = .ok (.iload_n 1, 1) := by decide +kernel
theorem dX0_swapped_13 : decode cX0_swapped 13 = .ok (.invokestatic 9, 3) := by decide +kernel
theorem dX0_swapped_16 : decode cX0_swapped 16 = .ok (.invokestatic 15, 3) := by decide +kernel
theorem dX0_swapped_19 : decode cX0_swapped 19 = .ok (.ireturn, 1) := by decide +kernel
theorem dX0_without_0 : decode cX0_without 0 = .ok (.iconst 1, 1) := by decide +kernel
theorem dX0_without_1 : decode cX0_without 1 = .ok (.iconst 4, 1) := by decide +kernel
theorem dX0_without_2 : decode cX0_without 2 = .ok (.iload_n 1, 1) := by decide +kernel
theorem dX0_without_3 : decode cX0_without 3 = .ok (.imul, 1) := by decide +kernel
theorem dX0_without_4 : decode cX0_without 4 = .ok (.ishl, 1) := by decide +kernel
theorem dX0_without_5 : decode cX0_without 5 = .ok (.iconst 1, 1) := by decide +kernel
theorem dX0_without_6 : decode cX0_without 6 = .ok (.isub, 1) := by decide +kernel
theorem dX0_without_7 : decode cX0_without 7 = .ok (.istore_n 2, 1) := by decide +kernel
theorem dX0_without_8 : decode cX0_without 8 = .ok (.iload_n 0, 1) := by decide +kernel
theorem dX0_without_9 : decode cX0_without 9 = .ok (.iload_n 2, 1) := by decide +kernel
theorem dX0_without_10 : decode cX0_without 10 = .ok (.iand, 1) := by decide +kernel
theorem dX0_without_11 : decode cX0_without 11 = .ok (.iload_n 0, 1) := by decide +kernel
theorem dX0_without_12 : decode cX0_without 12 = .ok (.iconst 4, 1) := by decide +kernel
theorem dX0_without_13 : decode cX0_without 13 = .ok (.iushr, 1) := by decide +kernel
theorem dX0_without_14 : decode cX0_without 14 = .ok (.iload_n 2, 1) := by decide +kernel
theorem dX0_without_15 : decode cX0_without 15 = .ok (.iconst (-1), 1) := by decide +kernel
theorem dX0_without_16 : decode cX0_without 16 = .ok (.ixor, 1) := by decide +kernel
theorem dX0_without_17 : decode cX0_without 17 = .ok (.iand, 1) := by decide +kernel
theorem dX0_without_18 : decode cX0_without 18 = .ok (.ior, 1) := by decide +kernel
theorem dX0_without_19 : decode cX0_without 19 = .ok (.ireturn, 1) := by decide +kernel
set_option maxRecDepth 20000 in
theorem ggX0_size_X0_at : GoodIn wsX0_size wsX0_at := goodIn_r _ [4] (by decide +kernel) (by decide +kernel)
set_option maxRecDepth 20000 in
theorem gX0_size_X0_at : GoodIn wsX0_size (va_wsS RX0 9 yX0_at wsX0_at) := goodIn_app (goodIn_of _ (by decide +kernel)) ggX0_size_X0_at
theorem dX0_size_0 : decode cX0_size 0 = .ok (.iconst 0, 1) := by decide +kernel
theorem dX0_size_1 : decode cX0_size 1 = .ok (.istore_n 1, 1) := by decide +kernel
theorem dX0_size_2 : decode cX0_size 2 = .ok (.iload_n 1, 1) := by decide +kernel
theorem dX0_size_3 : decode cX0_size 3 = .ok (.iconst 5, 1) := by decide +kernel
theorem dX0_size_4 : decode cX0_size 4 = .ok (.if_icmp .ge 17, 3) := by decide +kernel
theorem dX0_size_7 : decode cX0_size 7 = .ok (.iload_n 0, 1) := by decide +kernel
theorem dX0_size_8 : decode cX0_size 8 = .ok (.iload_n 1, 1) := by decide +kernel
theorem dX0_size_9 : decode cX0_size 9 = .ok (.invokestatic 9, 3) := by decide +kernel
theorem dX0_size_12 : decode cX0_size 12 = .ok (.ifCond .eq 9, 3) := by decide +kernel
theorem dX0_size_15 : decode cX0_size 15 = .ok (.iinc 1 1, 3) := by decide +kernel
theorem dX0_size_18 : decode cX0_size 18 = .ok (.goto (-16), 3) := by decide +kernel
theorem dX0_size_21 : decode cX0_size 21 = .ok (.iload_n 1, 1) := by decide +kernel
theorem dX0_size_22 : decode cX0_size 22 = .ok (.ireturn, 1) := by decide +kernel
set_option maxRecDepth 20000 in
theorem ggX0_members_X0_size : GoodIn wsX0_members wsX0_size := goodIn_r _ [4, 5, 6, 3, 7] (by decide +kernel) (by decide +kernel)
set_option maxRecDepth 20000 in
theorem gX0_members_X0_size : GoodIn wsX0_members (va_wsS RX0 19 yX0_size wsX0_size) := goodIn_app (goodIn_of _ (by decide +kernel)) ggX0_members_X0_size
set_option maxRecDepth 20000 in
theorem ggX0_members_X0_at : GoodIn wsX0_members wsX0_at := goodIn_r _ [7] (by decide +kernel) (by decide +kernel)
set_option maxRecDepth 20000 in
theorem gX0_members_X0_at : GoodIn wsX0_members (va_wsS RX0 9 yX0_at wsX0_at) := goodIn_app (goodIn_of _ (by decide +kernel)) ggX0_members_X0_at
theorem dX0_members_0 : decode cX0_members 0 = .ok (.iconst 0, 1) := by decide +kernel
theorem dX0_members_1 : decode cX0_members 1 = .ok (.istore_n 1, 1) := by decide +kernel
theorem dX0_members_2 : decode cX0_members 2 = .ok (.iconst 0, 1) := by decide +kernel
theorem dX0_members_3 : decode cX0_members 3 = .ok (.istore_n 2, 1) := by decide +kernel
theorem dX0_members_4 : decode cX0_members 4 = .ok (.iload_n 2, 1) := by decide +kernel
theorem dX0_members_5 : decode cX0_members 5 = .ok (.iload_n 0, 1) := by decide +kernel
theorem dX0_members_6 : decode cX0_members 6 = .ok (.invokestatic 19, 3) := by decide +kernel
theorem dX0_members_9 : decode cX0_members 9 = .ok (.if_icmp .ge 21, 3) := by decide +kernel
theorem dX0_members_12 : decode cX0_members 12 = .ok (.iload_n 1, 1) := by decide +kernel
theorem dX0_members_13 : decode cX0_members 13 = .ok (.iconst 1, 1) := by decide +kernel
theorem dX0_members_14 : decode cX0_members 14 = .ok (.iload_n 0, 1) := by decide +kernel
theorem dX0_members_15 : decode cX0_members 15 = .ok (.iload_n 2, 1) := by decide +kernel
theorem dX0_members_16 : decode cX0_members 16 = .ok (.invokestatic 9, 3) := by decide +kernel
theorem dX0_members_19 : decode cX0_members 19 = .ok (.iconst 1, 1) := by decide +kernel
theorem dX0_members_20 : decode cX0_members 20 = .ok (.isub, 1) := by decide +kernel
theorem dX0_members_21 : decode cX0_members 21 = .ok (.ishl, 1) := by decide +kernel
theorem dX0_members_22 : decode cX0_members 22 = .ok (.ior, 1) := by decide +kernel
theorem dX0_members_23 : decode cX0_members 23 = .ok (.istore_n 1, 1) := by decide +kernel
theorem dX0_members_24 : decode cX0_members 24 = .ok (.iinc 2 1, 3) := by decide +kernel
theorem dX0_members_27 : decode cX0_members 27 = .ok (.goto (-23), 3) := by decide +kernel
theorem dX0_members_30 : decode cX0_members 30 = .ok (.iload_n 1, 1) := by decide +kernel
theorem dX0_members_31 : decode cX0_members 31 = .ok (.ireturn, 1) := by decide +kernel
set_option maxRecDepth 20000 in
theorem ggX0_figures_X0_size : GoodIn wsX0_figures wsX0_size := goodIn_r _ [4, 5, 6, 3, 7] (by decide +kernel) (by decide +kernel)
set_option maxRecDepth 20000 in
theorem gX0_figures_X0_size : GoodIn wsX0_figures (va_wsS RX0 19 yX0_size wsX0_size) := goodIn_app (goodIn_of _ (by decide +kernel)) ggX0_figures_X0_size
set_option maxRecDepth 20000 in
theorem ggX0_figures_X0_at : GoodIn wsX0_figures wsX0_at := goodIn_r _ [7] (by decide +kernel) (by decide +kernel)
set_option maxRecDepth 20000 in
theorem gX0_figures_X0_at : GoodIn wsX0_figures (va_wsS RX0 9 yX0_at wsX0_at) := goodIn_app (goodIn_of _ (by decide +kernel)) ggX0_figures_X0_at
theorem dX0_figures_0 : decode cX0_figures 0 = .ok (.iconst 0, 1) := by decide +kernel
theorem dX0_figures_1 : decode cX0_figures 1 = .ok (.istore_n 1, 1) := by decide +kernel
theorem dX0_figures_2 : decode cX0_figures 2 = .ok (.iconst 0, 1) := by decide +kernel
theorem dX0_figures_3 : decode cX0_figures 3 = .ok (.istore_n 2, 1) := by decide +kernel
theorem dX0_figures_4 : decode cX0_figures 4 = .ok (.iload_n 2, 1) := by decide +kernel
theorem dX0_figures_5 : decode cX0_figures 5 = .ok (.iload_n 0, 1) := by decide +kernel
theorem dX0_figures_6 : decode cX0_figures 6 = .ok (.invokestatic 19, 3) := by decide +kernel
theorem dX0_figures_9 : decode cX0_figures 9 = .ok (.if_icmp .ge 20, 3) := by decide +kernel
theorem dX0_figures_12 : decode cX0_figures 12 = .ok (.iload_n 1, 1) := by decide +kernel
theorem dX0_figures_13 : decode cX0_figures 13 = .ok (.bipush 10, 2) := by decide +kernel
theorem dX0_figures_15 : decode cX0_figures 15 = .ok (.imul, 1) := by decide +kernel
theorem dX0_figures_16 : decode cX0_figures 16 = .ok (.iload_n 0, 1) := by decide +kernel
theorem dX0_figures_17 : decode cX0_figures 17 = .ok (.iload_n 2, 1) := by decide +kernel
theorem dX0_figures_18 : decode cX0_figures 18 = .ok (.invokestatic 9, 3) := by decide +kernel
theorem dX0_figures_21 : decode cX0_figures 21 = .ok (.iadd, 1) := by decide +kernel
theorem dX0_figures_22 : decode cX0_figures 22 = .ok (.istore_n 1, 1) := by decide +kernel
theorem dX0_figures_23 : decode cX0_figures 23 = .ok (.iinc 2 1, 3) := by decide +kernel
theorem dX0_figures_26 : decode cX0_figures 26 = .ok (.goto (-22), 3) := by decide +kernel
theorem dX0_figures_29 : decode cX0_figures 29 = .ok (.iload_n 1, 1) := by decide +kernel
theorem dX0_figures_30 : decode cX0_figures 30 = .ok (.ireturn, 1) := by decide +kernel
set_option maxRecDepth 20000 in
theorem ggX0_only_X0_size : GoodIn wsX0_only wsX0_size := goodIn_r _ [4, 5, 6, 3, 7] (by decide +kernel) (by decide +kernel)
set_option maxRecDepth 20000 in
theorem gX0_only_X0_size : GoodIn wsX0_only (va_wsS RX0 19 yX0_size wsX0_size) := goodIn_app (goodIn_of _ (by decide +kernel)) ggX0_only_X0_size
set_option maxRecDepth 20000 in
theorem ggX0_only_X0_at : GoodIn wsX0_only wsX0_at := goodIn_r _ [7] (by decide +kernel) (by decide +kernel)
set_option maxRecDepth 20000 in
theorem gX0_only_X0_at : GoodIn wsX0_only (va_wsS RX0 9 yX0_at wsX0_at) := goodIn_app (goodIn_of _ (by decide +kernel)) ggX0_only_X0_at
set_option maxRecDepth 20000 in
theorem ggX0_only_X0_without : GoodIn wsX0_only wsX0_without := goodIn_r _ [10] (by decide +kernel) (by decide +kernel)
set_option maxRecDepth 20000 in
theorem gX0_only_X0_without : GoodIn wsX0_only (va_wsS RX0 23 yX0_without wsX0_without) := goodIn_app (goodIn_of _ (by decide +kernel)) ggX0_only_X0_without
theorem dX0_only_0 : decode cX0_only 0 = .ok (.iload_n 0, 1) := by decide +kernel
theorem dX0_only_1 : decode cX0_only 1 = .ok (.istore_n 2, 1) := by decide +kernel
theorem dX0_only_2 : decode cX0_only 2 = .ok (.iload_n 0, 1) := by decide +kernel
theorem dX0_only_3 : decode cX0_only 3 = .ok (.invokestatic 19, 3) := by decide +kernel
theorem dX0_only_6 : decode cX0_only 6 = .ok (.iconst 1, 1) := by decide +kernel
theorem dX0_only_7 : decode cX0_only 7 = .ok (.isub, 1) := by decide +kernel
theorem dX0_only_8 : decode cX0_only 8 = .ok (.istore_n 3, 1) := by decide +kernel
theorem dX0_only_9 : decode cX0_only 9 = .ok (.iload_n 3, 1) := by decide +kernel
theorem dX0_only_10 : decode cX0_only 10 = .ok (.ifCond .lt 29, 3) := by decide +kernel
theorem dX0_only_13 : decode cX0_only 13 = .ok (.iload_n 1, 1) := by decide +kernel
theorem dX0_only_14 : decode cX0_only 14 = .ok (.iload_n 0, 1) := by decide +kernel
theorem dX0_only_15 : decode cX0_only 15 = .ok (.iload_n 3, 1) := by decide +kernel
theorem dX0_only_16 : decode cX0_only 16 = .ok (.invokestatic 9, 3) := by decide +kernel
theorem dX0_only_19 : decode cX0_only 19 = .ok (.iconst 1, 1) := by decide +kernel
theorem dX0_only_20 : decode cX0_only 20 = .ok (.isub, 1) := by decide +kernel
theorem dX0_only_21 : decode cX0_only 21 = .ok (.ishr, 1) := by decide +kernel
theorem dX0_only_22 : decode cX0_only 22 = .ok (.iconst 1, 1) := by decide +kernel
theorem dX0_only_23 : decode cX0_only 23 = .ok (.iand, 1) := by decide +kernel
theorem dX0_only_24 : decode cX0_only 24 = .ok (.ifCond .ne 9, 3) := by decide +kernel
theorem dX0_only_27 : decode cX0_only 27 = .ok (.iload_n 2, 1) := by decide +kernel
theorem dX0_only_28 : decode cX0_only 28 = .ok (.iload_n 3, 1) := by decide +kernel
theorem dX0_only_29 : decode cX0_only 29 = .ok (.invokestatic 23, 3) := by decide +kernel
theorem dX0_only_32 : decode cX0_only 32 = .ok (.istore_n 2, 1) := by decide +kernel
theorem dX0_only_33 : decode cX0_only 33 = .ok (.iinc 3 (-1), 3) := by decide +kernel
theorem dX0_only_36 : decode cX0_only 36 = .ok (.goto (-27), 3) := by decide +kernel
theorem dX0_only_39 : decode cX0_only 39 = .ok (.iload_n 2, 1) := by decide +kernel
theorem dX0_only_40 : decode cX0_only 40 = .ok (.ireturn, 1) := by decide +kernel
set_option maxRecDepth 20000 in
theorem ggX0_ascending_X0_with : GoodIn wsX0_ascending wsX0_with := goodIn_r _ [4] (by decide +kernel) (by decide +kernel)
set_option maxRecDepth 20000 in
theorem gX0_ascending_X0_with : GoodIn wsX0_ascending (va_wsS RX0 15 yX0_with wsX0_with) := goodIn_app (goodIn_of _ (by decide +kernel)) ggX0_ascending_X0_with
theorem dX0_ascending_0 : decode cX0_ascending 0 = .ok (.iconst 0, 1) := by decide +kernel
theorem dX0_ascending_1 : decode cX0_ascending 1 = .ok (.istore_n 1, 1) := by decide +kernel
theorem dX0_ascending_2 : decode cX0_ascending 2 = .ok (.iconst 0, 1) := by decide +kernel
theorem dX0_ascending_3 : decode cX0_ascending 3 = .ok (.istore_n 2, 1) := by decide +kernel
theorem dX0_ascending_4 : decode cX0_ascending 4 = .ok (.iconst 0, 1) := by decide +kernel
theorem dX0_ascending_5 : decode cX0_ascending 5 = .ok (.istore_n 3, 1) := by decide +kernel
theorem dX0_ascending_6 : decode cX0_ascending 6 = .ok (.iload_n 3, 1) := by decide +kernel
theorem dX0_ascending_7 : decode cX0_ascending 7 = .ok (.iconst 5, 1) := by decide +kernel
theorem dX0_ascending_8 : decode cX0_ascending 8 = .ok (.if_icmp .ge 30, 3) := by decide +kernel
theorem dX0_ascending_11 : decode cX0_ascending 11 = .ok (.iload_n 0, 1) := by decide +kernel
theorem dX0_ascending_12 : decode cX0_ascending 12 = .ok (.iload_n 3, 1) := by decide +kernel
theorem dX0_ascending_13 : decode cX0_ascending 13 = .ok (.ishr, 1) := by decide +kernel
theorem dX0_ascending_14 : decode cX0_ascending 14 = .ok (.iconst 1, 1) := by decide +kernel
theorem dX0_ascending_15 : decode cX0_ascending 15 = .ok (.iand, 1) := by decide +kernel
theorem dX0_ascending_16 : decode cX0_ascending 16 = .ok (.iconst 1, 1) := by decide +kernel
theorem dX0_ascending_17 : decode cX0_ascending 17 = .ok (.if_icmp .ne 15, 3) := by decide +kernel
theorem dX0_ascending_20 : decode cX0_ascending 20 = .ok (.iload_n 1, 1) := by decide +kernel
theorem dX0_ascending_21 : decode cX0_ascending 21 = .ok (.iload_n 2, 1) := by decide +kernel
theorem dX0_ascending_22 : decode cX0_ascending 22 = .ok (.iload_n 3, 1) := by decide +kernel
theorem dX0_ascending_23 : decode cX0_ascending 23 = .ok (.iconst 1, 1) := by decide +kernel
theorem dX0_ascending_24 : decode cX0_ascending 24 = .ok (.iadd, 1) := by decide +kernel
theorem dX0_ascending_25 : decode cX0_ascending 25 = .ok (.invokestatic 15, 3) := by decide +kernel
theorem dX0_ascending_28 : decode cX0_ascending 28 = .ok (.istore_n 1, 1) := by decide +kernel
theorem dX0_ascending_29 : decode cX0_ascending 29 = .ok (.iinc 2 1, 3) := by decide +kernel
theorem dX0_ascending_32 : decode cX0_ascending 32 = .ok (.iinc 3 1, 3) := by decide +kernel
theorem dX0_ascending_35 : decode cX0_ascending 35 = .ok (.goto (-29), 3) := by decide +kernel
theorem dX0_ascending_38 : decode cX0_ascending 38 = .ok (.iload_n 1, 1) := by decide +kernel
theorem dX0_ascending_39 : decode cX0_ascending 39 = .ok (.ireturn, 1) := by decide +kernel
set_option maxRecDepth 20000 in
theorem ggX0_nextOrder_X0_size : GoodIn wsX0_nextOrder wsX0_size := goodIn_r _ [4, 5, 6, 3, 7] (by decide +kernel) (by decide +kernel)
set_option maxRecDepth 20000 in
theorem gX0_nextOrder_X0_size : GoodIn wsX0_nextOrder (va_wsS RX0 19 yX0_size wsX0_size) := goodIn_app (goodIn_of _ (by decide +kernel)) ggX0_nextOrder_X0_size
set_option maxRecDepth 20000 in
theorem ggX0_nextOrder_X0_at : GoodIn wsX0_nextOrder wsX0_at := goodIn_r _ [7] (by decide +kernel) (by decide +kernel)
set_option maxRecDepth 20000 in
theorem gX0_nextOrder_X0_at : GoodIn wsX0_nextOrder (va_wsS RX0 9 yX0_at wsX0_at) := goodIn_app (goodIn_of _ (by decide +kernel)) ggX0_nextOrder_X0_at
set_option maxRecDepth 20000 in
theorem ggX0_nextOrder_X0_swapped : GoodIn wsX0_nextOrder wsX0_swapped := goodIn_r _ [10, 5, 6, 3, 7, 11, 12, 13] (by decide +kernel) (by decide +kernel)
set_option maxRecDepth 20000 in
theorem gX0_nextOrder_X0_swapped : GoodIn wsX0_nextOrder (va_wsS RX0 26 yX0_swapped wsX0_swapped) := goodIn_app (goodIn_of _ (by decide +kernel)) ggX0_nextOrder_X0_swapped
theorem dX0_nextOrder_0 : decode cX0_nextOrder 0 = .ok (.iload_n 0, 1) := by decide +kernel
theorem dX0_nextOrder_1 : decode cX0_nextOrder 1 = .ok (.invokestatic 19, 3) := by decide +kernel
theorem dX0_nextOrder_4 : decode cX0_nextOrder 4 = .ok (.iconst 1, 1) := by decide +kernel
theorem dX0_nextOrder_5 : decode cX0_nextOrder 5 = .ok (.isub, 1) := by decide +kernel
theorem dX0_nextOrder_6 : decode cX0_nextOrder 6 = .ok (.istore_n 1, 1) := by decide +kernel
theorem dX0_nextOrder_7 : decode cX0_nextOrder 7 = .ok (.iload_n 1, 1) := by decide +kernel
theorem dX0_nextOrder_8 : decode cX0_nextOrder 8 = .ok (.iconst 1, 1) := by decide +kernel
theorem dX0_nextOrder_9 : decode cX0_nextOrder 9 = .ok (.isub, 1) := by decide +kernel
theorem dX0_nextOrder_10 : decode cX0_nextOrder 10 = .ok (.istore_n 2, 1) := by decide +kernel
theorem dX0_nextOrder_11 : decode cX0_nextOrder 11 = .ok (.iload_n 2, 1) := by decide +kernel
theorem dX0_nextOrder_12 : decode cX0_nextOrder 12 = .ok (.ifCond .lt 24, 3) := by decide +kernel
theorem dX0_nextOrder_15 : decode cX0_nextOrder 15 = .ok (.iload_n 0, 1) := by decide +kernel
theorem dX0_nextOrder_16 : decode cX0_nextOrder 16 = .ok (.iload_n 2, 1) := by decide +kernel
theorem dX0_nextOrder_17 : decode cX0_nextOrder 17 = .ok (.invokestatic 9, 3) := by decide +kernel
theorem dX0_nextOrder_20 : decode cX0_nextOrder 20 = .ok (.iload_n 0, 1) := by decide +kernel
theorem dX0_nextOrder_21 : decode cX0_nextOrder 21 = .ok (.iload_n 2, 1) := by decide +kernel
theorem dX0_nextOrder_22 : decode cX0_nextOrder 22 = .ok (.iconst 1, 1) := by decide +kernel
theorem dX0_nextOrder_23 : decode cX0_nextOrder 23 = .ok (.iadd, 1) := by decide +kernel
theorem dX0_nextOrder_24 : decode cX0_nextOrder 24 = .ok (.invokestatic 9, 3) := by decide +kernel
theorem dX0_nextOrder_27 : decode cX0_nextOrder 27 = .ok (.if_icmp .le 9, 3) := by decide +kernel
theorem dX0_nextOrder_30 : decode cX0_nextOrder 30 = .ok (.iinc 2 (-1), 3) := by decide +kernel
theorem dX0_nextOrder_33 : decode cX0_nextOrder 33 = .ok (.goto (-22), 3) := by decide +kernel
theorem dX0_nextOrder_36 : decode cX0_nextOrder 36 = .ok (.iload_n 2, 1) := by decide +kernel
theorem dX0_nextOrder_37 : decode cX0_nextOrder 37 = .ok (.ifCond .ge 5, 3) := by decide +kernel
theorem dX0_nextOrder_40 : decode cX0_nextOrder 40 = .ok (.iconst 0, 1) := by decide +kernel
theorem dX0_nextOrder_41 : decode cX0_nextOrder 41 = .ok (.ireturn, 1) := by decide +kernel
theorem dX0_nextOrder_42 : decode cX0_nextOrder 42 = .ok (.iload_n 1, 1) := by decide +kernel
theorem dX0_nextOrder_43 : decode cX0_nextOrder 43 = .ok (.istore_n 3, 1) := by decide +kernel
theorem dX0_nextOrder_44 : decode cX0_nextOrder 44 = .ok (.iload_n 3, 1) := by decide +kernel
theorem dX0_nextOrder_45 : decode cX0_nextOrder 45 = .ok (.iload_n 2, 1) := by decide +kernel
theorem dX0_nextOrder_46 : decode cX0_nextOrder 46 = .ok (.iconst 1, 1) := by decide +kernel
theorem dX0_nextOrder_47 : decode cX0_nextOrder 47 = .ok (.iadd, 1) := by decide +kernel
theorem dX0_nextOrder_48 : decode cX0_nextOrder 48 = .ok (.if_icmp .le 22, 3) := by decide +kernel
theorem dX0_nextOrder_51 : decode cX0_nextOrder 51 = .ok (.iload_n 0, 1) := by decide +kernel
theorem dX0_nextOrder_52 : decode cX0_nextOrder 52 = .ok (.iload_n 3, 1) := by decide +kernel
theorem dX0_nextOrder_53 : decode cX0_nextOrder 53 = .ok (.invokestatic 9, 3) := by decide +kernel
theorem dX0_nextOrder_56 : decode cX0_nextOrder 56 = .ok (.iload_n 0, 1) := by decide +kernel
theorem dX0_nextOrder_57 : decode cX0_nextOrder 57 = .ok (.iload_n 2, 1) := by decide +kernel
theorem dX0_nextOrder_58 : decode cX0_nextOrder 58 = .ok (.invokestatic 9, 3) := by decide +kernel
theorem dX0_nextOrder_61 : decode cX0_nextOrder 61 = .ok (.if_icmp .ge 9, 3) := by decide +kernel
theorem dX0_nextOrder_64 : decode cX0_nextOrder 64 = .ok (.iinc 3 (-1), 3) := by decide +kernel
theorem dX0_nextOrder_67 : decode cX0_nextOrder 67 = .ok (.goto (-23), 3) := by decide +kernel
theorem dX0_nextOrder_70 : decode cX0_nextOrder 70 = .ok (.iload_n 0, 1) := by decide +kernel
theorem dX0_nextOrder_71 : decode cX0_nextOrder 71 = .ok (.iload_n 2, 1) := by decide +kernel
theorem dX0_nextOrder_72 : decode cX0_nextOrder 72 = .ok (.iload_n 3, 1) := by decide +kernel
theorem dX0_nextOrder_73 : decode cX0_nextOrder 73 = .ok (.invokestatic 26, 3) := by decide +kernel
theorem dX0_nextOrder_76 : decode cX0_nextOrder 76 = .ok (.istore 4, 2) := by decide +kernel
theorem dX0_nextOrder_78 : decode cX0_nextOrder 78 = .ok (.iload_n 1, 1) := by decide +kernel
theorem dX0_nextOrder_79 : decode cX0_nextOrder 79 = .ok (.istore 5, 2) := by decide +kernel
theorem dX0_nextOrder_81 : decode cX0_nextOrder 81 = .ok (.iload_n 2, 1) := by decide +kernel
theorem dX0_nextOrder_82 : decode cX0_nextOrder 82 = .ok (.iconst 1, 1) := by decide +kernel
theorem dX0_nextOrder_83 : decode cX0_nextOrder 83 = .ok (.iadd, 1) := by decide +kernel
theorem dX0_nextOrder_84 : decode cX0_nextOrder 84 = .ok (.istore 6, 2) := by decide +kernel
theorem dX0_nextOrder_86 : decode cX0_nextOrder 86 = .ok (.iload 6, 2) := by decide +kernel
theorem dX0_nextOrder_88 : decode cX0_nextOrder 88 = .ok (.iload 5, 2) := by decide +kernel
theorem dX0_nextOrder_90 : decode cX0_nextOrder 90 = .ok (.if_icmp .ge 23, 3) := by decide +kernel
theorem dX0_nextOrder_93 : decode cX0_nextOrder 93 = .ok (.iload 4, 2) := by decide +kernel
theorem dX0_nextOrder_95 : decode cX0_nextOrder 95 = .ok (.iload 6, 2) := by decide +kernel
theorem dX0_nextOrder_97 : decode cX0_nextOrder 97 = .ok (.iload 5, 2) := by decide +kernel
theorem dX0_nextOrder_99 : decode cX0_nextOrder 99 = .ok (.invokestatic 26, 3) := by decide +kernel
theorem dX0_nextOrder_102 : decode cX0_nextOrder 102 = .ok (.istore 4, 2) := by decide +kernel
theorem dX0_nextOrder_104 : decode cX0_nextOrder 104 = .ok (.iinc 5 (-1), 3) := by decide +kernel
theorem dX0_nextOrder_107 : decode cX0_nextOrder 107 = .ok (.iinc 6 1, 3) := by decide +kernel
theorem dX0_nextOrder_110 : decode cX0_nextOrder 110 = .ok (.goto (-24), 3) := by decide +kernel
theorem dX0_nextOrder_113 : decode cX0_nextOrder 113 = .ok (.iload 4, 2) := by decide +kernel
theorem dX0_nextOrder_115 : decode cX0_nextOrder 115 = .ok (.ireturn, 1) := by decide +kernel
theorem dX1_init_0 : decode cX1_init 0 = .ok (.aload_n 0, 1) := by decide +kernel
theorem dX1_init_1 : decode cX1_init 1 = .ok (.invokespecial 1, 3) := by decide +kernel
theorem dX1_init_4 : decode cX1_init 4 = .ok (.aload_n 0, 1) := by decide +kernel
theorem dX1_init_5 : decode cX1_init 5 = .ok (.iconst 0, 1) := by decide +kernel
theorem dX1_init_6 : decode cX1_init 6 = .ok (.putfield 7, 3) := by decide +kernel
theorem dX1_init_9 : decode cX1_init 9 = .ok (.aload_n 0, 1) := by decide +kernel
theorem dX1_init_10 : decode cX1_init 10 = .ok (.iconst 1, 1) := by decide +kernel
theorem dX1_init_11 : decode cX1_init 11 = .ok (.putfield 13, 3) := by decide +kernel
theorem dX1_init_14 : decode cX1_init 14 = .ok (.aload_n 0, 1) := by decide +kernel
theorem dX1_init_15 : decode cX1_init 15 = .ok (.bipush 9, 2) := by decide +kernel
theorem dX1_init_17 : decode cX1_init 17 = .ok (.putfield 16, 3) := by decide +kernel
theorem dX1_init_20 : decode cX1_init 20 = .ok (.aload_n 0, 1) := by decide +kernel
theorem dX1_init_21 : decode cX1_init 21 = .ok (.iconst 0, 1) := by decide +kernel
theorem dX1_init_22 : decode cX1_init 22 = .ok (.putfield 19, 3) := by decide +kernel
theorem dX1_init_25 : decode cX1_init 25 = .ok (.aload_n 0, 1) := by decide +kernel
theorem dX1_init_26 : decode cX1_init 26 = .ok (.iconst 0, 1) := by decide +kernel
theorem dX1_init_27 : decode cX1_init 27 = .ok (.putfield 22, 3) := by decide +kernel
theorem dX1_init_30 : decode cX1_init 30 = .ok (.return_, 1) := by decide +kernel
set_option maxRecDepth 20000 in
theorem ggX1_read_X2_figure : GoodIn wsX1_read wsX2_figure := goodIn_r _ [10, 11, 12, 13, 9, 14, 15, 39, 40] (by decide +kernel) (by decide +kernel)
set_option maxRecDepth 20000 in
theorem gX1_read_X2_figure : GoodIn wsX1_read (wsV RX1 25 RX2 yX2_figure wsX2_figure) := goodIn_app (goodIn_of _ (by decide +kernel)) ggX1_read_X2_figure
set_option maxRecDepth 20000 in
theorem ggX1_read_X2_parts : GoodIn wsX1_read wsX2_parts := goodIn_r _ [19, 20, 39, 40] (by decide +kernel) (by decide +kernel)
set_option maxRecDepth 20000 in
theorem gX1_read_X2_parts : GoodIn wsX1_read (wsV RX1 31 RX2 yX2_parts wsX2_parts) := goodIn_app (goodIn_of _ (by decide +kernel)) ggX1_read_X2_parts
set_option maxRecDepth 20000 in
theorem ggX1_read_X2_nerve : GoodIn wsX1_read wsX2_nerve := goodIn_r _ [24, 25, 7, 8, 9, 10, 11, 12, 13, 14, 15, 39, 40] (by decide +kernel) (by decide +kernel)
set_option maxRecDepth 20000 in
theorem gX1_read_X2_nerve : GoodIn wsX1_read (wsV RX1 35 RX2 yX2_nerve wsX2_nerve) := goodIn_app (goodIn_of _ (by decide +kernel)) ggX1_read_X2_nerve
set_option maxRecDepth 20000 in
theorem ggX1_read_X0_with : GoodIn wsX1_read wsX0_with := goodIn_r _ [29] (by decide +kernel) (by decide +kernel)
set_option maxRecDepth 20000 in
theorem gX1_read_X0_with : GoodIn wsX1_read (va_wsS RX1 38 yX0_with wsX0_with) := goodIn_app (goodIn_of _ (by decide +kernel)) ggX1_read_X0_with
set_option maxRecDepth 20000 in
theorem ggX1_read_X2_kind : GoodIn wsX1_read wsX2_kind := goodIn_r _ [33, 25, 7, 8, 9, 10, 11, 12, 13, 14, 15, 39, 40] (by decide +kernel) (by decide +kernel)
set_option maxRecDepth 20000 in
theorem gX1_read_X2_kind : GoodIn wsX1_read (wsV RX1 44 RX2 yX2_kind wsX2_kind) := goodIn_app (goodIn_of _ (by decide +kernel)) ggX1_read_X2_kind
theorem dX1_read_0 : decode cX1_read 0 = .ok (.aload_n 0, 1) := by decide +kernel
theorem dX1_read_1 : decode cX1_read 1 = .ok (.aload_n 1, 1) := by decide +kernel
theorem dX1_read_2 : decode cX1_read 2 = .ok (.iconst 1, 1) := by decide +kernel
theorem dX1_read_3 : decode cX1_read 3 = .ok (.invokevirtual 25, 3) := by decide +kernel
theorem dX1_read_6 : decode cX1_read 6 = .ok (.putfield 13, 3) := by decide +kernel
theorem dX1_read_9 : decode cX1_read 9 = .ok (.aload_n 0, 1) := by decide +kernel
theorem dX1_read_10 : decode cX1_read 10 = .ok (.aload_n 1, 1) := by decide +kernel
theorem dX1_read_11 : decode cX1_read 11 = .ok (.iconst 2, 1) := by decide +kernel
theorem dX1_read_12 : decode cX1_read 12 = .ok (.invokevirtual 25, 3) := by decide +kernel
theorem dX1_read_15 : decode cX1_read 15 = .ok (.putfield 16, 3) := by decide +kernel
theorem dX1_read_18 : decode cX1_read 18 = .ok (.aload_n 0, 1) := by decide +kernel
theorem dX1_read_19 : decode cX1_read 19 = .ok (.aload_n 1, 1) := by decide +kernel
theorem dX1_read_20 : decode cX1_read 20 = .ok (.invokevirtual 31, 3) := by decide +kernel
theorem dX1_read_23 : decode cX1_read 23 = .ok (.putfield 7, 3) := by decide +kernel
theorem dX1_read_26 : decode cX1_read 26 = .ok (.iconst 0, 1) := by decide +kernel
theorem dX1_read_27 : decode cX1_read 27 = .ok (.istore_n 2, 1) := by decide +kernel
theorem dX1_read_28 : decode cX1_read 28 = .ok (.iload_n 2, 1) := by decide +kernel
theorem dX1_read_29 : decode cX1_read 29 = .ok (.aload_n 0, 1) := by decide +kernel
theorem dX1_read_30 : decode cX1_read 30 = .ok (.getfield 7, 3) := by decide +kernel
theorem dX1_read_33 : decode cX1_read 33 = .ok (.if_icmp .ge 43, 3) := by decide +kernel
theorem dX1_read_36 : decode cX1_read 36 = .ok (.aload_n 0, 1) := by decide +kernel
theorem dX1_read_37 : decode cX1_read 37 = .ok (.aload_n 0, 1) := by decide +kernel
theorem dX1_read_38 : decode cX1_read 38 = .ok (.getfield 19, 3) := by decide +kernel
theorem dX1_read_41 : decode cX1_read 41 = .ok (.iload_n 2, 1) := by decide +kernel
theorem dX1_read_42 : decode cX1_read 42 = .ok (.aload_n 1, 1) := by decide +kernel
theorem dX1_read_43 : decode cX1_read 43 = .ok (.iload_n 2, 1) := by decide +kernel
theorem dX1_read_44 : decode cX1_read 44 = .ok (.invokevirtual 35, 3) := by decide +kernel
theorem dX1_read_47 : decode cX1_read 47 = .ok (.invokestatic 38, 3) := by decide +kernel
theorem dX1_read_50 : decode cX1_read 50 = .ok (.putfield 19, 3) := by decide +kernel
theorem dX1_read_53 : decode cX1_read 53 = .ok (.aload_n 0, 1) := by decide +kernel
theorem dX1_read_54 : decode cX1_read 54 = .ok (.aload_n 0, 1) := by decide +kernel
theorem dX1_read_55 : decode cX1_read 55 = .ok (.getfield 22, 3) := by decide +kernel
theorem dX1_read_58 : decode cX1_read 58 = .ok (.iload_n 2, 1) := by decide +kernel
theorem dX1_read_59 : decode cX1_read 59 = .ok (.aload_n 1, 1) := by decide +kernel
theorem dX1_read_60 : decode cX1_read 60 = .ok (.iload_n 2, 1) := by decide +kernel
theorem dX1_read_61 : decode cX1_read 61 = .ok (.invokevirtual 44, 3) := by decide +kernel
theorem dX1_read_64 : decode cX1_read 64 = .ok (.invokestatic 38, 3) := by decide +kernel
theorem dX1_read_67 : decode cX1_read 67 = .ok (.putfield 22, 3) := by decide +kernel
theorem dX1_read_70 : decode cX1_read 70 = .ok (.iinc 2 1, 3) := by decide +kernel
theorem dX1_read_73 : decode cX1_read 73 = .ok (.goto (-45), 3) := by decide +kernel
theorem dX1_read_76 : decode cX1_read 76 = .ok (.return_, 1) := by decide +kernel
theorem dX1_walkers_0 : decode cX1_walkers 0 = .ok (.aload_n 0, 1) := by decide +kernel
theorem dX1_walkers_1 : decode cX1_walkers 1 = .ok (.getfield 7, 3) := by decide +kernel
theorem dX1_walkers_4 : decode cX1_walkers 4 = .ok (.ireturn, 1) := by decide +kernel
theorem dX1_light_0 : decode cX1_light 0 = .ok (.aload_n 0, 1) := by decide +kernel
theorem dX1_light_1 : decode cX1_light 1 = .ok (.getfield 13, 3) := by decide +kernel
theorem dX1_light_4 : decode cX1_light 4 = .ok (.ireturn, 1) := by decide +kernel
theorem dX1_water_0 : decode cX1_water 0 = .ok (.aload_n 0, 1) := by decide +kernel
theorem dX1_water_1 : decode cX1_water 1 = .ok (.getfield 16, 3) := by decide +kernel
theorem dX1_water_4 : decode cX1_water 4 = .ok (.ireturn, 1) := by decide +kernel
set_option maxRecDepth 20000 in
theorem ggX1_has_X4_within : GoodIn wsX1_has wsX4_within := goodIn_r _ [4] (by decide +kernel) (by decide +kernel)
set_option maxRecDepth 20000 in
theorem gX1_has_X4_within_n47 : GoodIn wsX1_has (wsX4_within) := ggX1_has_X4_within
theorem dX1_has_0 : decode cX1_has 0 = .ok (.iload_n 1, 1) := by decide +kernel
theorem dX1_has_1 : decode cX1_has 1 = .ok (.iconst 0, 1) := by decide +kernel
theorem dX1_has_2 : decode cX1_has 2 = .ok (.aload_n 0, 1) := by decide +kernel
theorem dX1_has_3 : decode cX1_has 3 = .ok (.getfield 7, 3) := by decide +kernel
theorem dX1_has_6 : decode cX1_has 6 = .ok (.iconst 1, 1) := by decide +kernel
theorem dX1_has_7 : decode cX1_has 7 = .ok (.isub, 1) := by decide +kernel
theorem dX1_has_8 : decode cX1_has 8 = .ok (.invokestatic 47, 3) := by decide +kernel
theorem dX1_has_11 : decode cX1_has 11 = .ok (.ireturn, 1) := by decide +kernel
theorem dX1_everybody_0 : decode cX1_everybody 0 = .ok (.iconst 1, 1) := by decide +kernel
theorem dX1_everybody_1 : decode cX1_everybody 1 = .ok (.aload_n 0, 1) := by decide +kernel
theorem dX1_everybody_2 : decode cX1_everybody 2 = .ok (.getfield 7, 3) := by decide +kernel
theorem dX1_everybody_5 : decode cX1_everybody 5 = .ok (.ishl, 1) := by decide +kernel
theorem dX1_everybody_6 : decode cX1_everybody 6 = .ok (.iconst 1, 1) := by decide +kernel
theorem dX1_everybody_7 : decode cX1_everybody 7 = .ok (.isub, 1) := by decide +kernel
theorem dX1_everybody_8 : decode cX1_everybody 8 = .ok (.ireturn, 1) := by decide +kernel
set_option maxRecDepth 20000 in
theorem ggX1_nerve_X0_at : GoodIn wsX1_nerve wsX0_at := goodIn_r _ [5] (by decide +kernel) (by decide +kernel)
set_option maxRecDepth 20000 in
theorem gX1_nerve_X0_at : GoodIn wsX1_nerve (va_wsS RX1 53 yX0_at wsX0_at) := goodIn_app (goodIn_of _ (by decide +kernel)) ggX1_nerve_X0_at
theorem dX1_nerve_0 : decode cX1_nerve 0 = .ok (.aload_n 0, 1) := by decide +kernel
theorem dX1_nerve_1 : decode cX1_nerve 1 = .ok (.getfield 19, 3) := by decide +kernel
theorem dX1_nerve_4 : decode cX1_nerve 4 = .ok (.iload_n 1, 1) := by decide +kernel
theorem dX1_nerve_5 : decode cX1_nerve 5 = .ok (.invokestatic 53, 3) := by decide +kernel
theorem dX1_nerve_8 : decode cX1_nerve 8 = .ok (.ireturn, 1) := by decide +kernel
set_option maxRecDepth 20000 in
theorem ggX1_kind_X0_at : GoodIn wsX1_kind wsX0_at := goodIn_r _ [5] (by decide +kernel) (by decide +kernel)
set_option maxRecDepth 20000 in
theorem gX1_kind_X0_at : GoodIn wsX1_kind (va_wsS RX1 53 yX0_at wsX0_at) := goodIn_app (goodIn_of _ (by decide +kernel)) ggX1_kind_X0_at
theorem dX1_kind_0 : decode cX1_kind 0 = .ok (.aload_n 0, 1) := by decide +kernel
theorem dX1_kind_1 : decode cX1_kind 1 = .ok (.getfield 22, 3) := by decide +kernel
theorem dX1_kind_4 : decode cX1_kind 4 = .ok (.iload_n 1, 1) := by decide +kernel
theorem dX1_kind_5 : decode cX1_kind 5 = .ok (.invokestatic 53, 3) := by decide +kernel
theorem dX1_kind_8 : decode cX1_kind 8 = .ok (.ireturn, 1) := by decide +kernel
theorem dX2_init_0 : decode cX2_init 0 = .ok (.aload_n 0, 1) := by decide +kernel
theorem dX2_init_1 : decode cX2_init 1 = .ok (.invokespecial 3, 3) := by decide +kernel
theorem dX2_init_4 : decode cX2_init 4 = .ok (.aload_n 0, 1) := by decide +kernel
theorem dX2_init_5 : decode cX2_init 5 = .ok (.bipush 32, 2) := by decide +kernel
theorem dX2_init_7 : decode cX2_init 7 = .ok (.newarray .int, 2) := by decide +kernel
theorem dX2_init_9 : decode cX2_init 9 = .ok (.putfield 9, 3) := by decide +kernel
theorem dX2_init_12 : decode cX2_init 12 = .ok (.aload_n 0, 1) := by decide +kernel
theorem dX2_init_13 : decode cX2_init 13 = .ok (.iconst 0, 1) := by decide +kernel
theorem dX2_init_14 : decode cX2_init 14 = .ok (.putfield 15, 3) := by decide +kernel
theorem dX2_init_17 : decode cX2_init 17 = .ok (.return_, 1) := by decide +kernel
theorem dX2_length_0 : decode cX2_length 0 = .ok (.aload_n 0, 1) := by decide +kernel
theorem dX2_length_1 : decode cX2_length 1 = .ok (.getfield 15, 3) := by decide +kernel
theorem dX2_length_4 : decode cX2_length 4 = .ok (.ireturn, 1) := by decide +kernel
theorem dX2_append_0 : decode cX2_append 0 = .ok (.aload_n 0, 1) := by decide +kernel
theorem dX2_append_1 : decode cX2_append 1 = .ok (.getfield 15, 3) := by decide +kernel
theorem dX2_append_4 : decode cX2_append 4 = .ok (.ifCond .lt 15, 3) := by decide +kernel
theorem dX2_append_7 : decode cX2_append 7 = .ok (.aload_n 0, 1) := by decide +kernel
theorem dX2_append_8 : decode cX2_append 8 = .ok (.getfield 15, 3) := by decide +kernel
theorem dX2_append_11 : decode cX2_append 11 = .ok (.aload_n 0, 1) := by decide +kernel
theorem dX2_append_12 : decode cX2_append 12 = .ok (.getfield 9, 3) := by decide +kernel
theorem dX2_append_15 : decode cX2_append 15 = .ok (.arraylength, 1) := by decide +kernel
theorem dX2_append_16 : decode cX2_append 16 = .ok (.if_icmp .lt 5, 3) := by decide +kernel
theorem dX2_append_19 : decode cX2_append 19 = .ok (.iconst 0, 1) := by decide +kernel
theorem dX2_append_20 : decode cX2_append 20 = .ok (.ireturn, 1) := by decide +kernel
theorem dX2_append_21 : decode cX2_append 21 = .ok (.aload_n 0, 1) := by decide +kernel
theorem dX2_append_22 : decode cX2_append 22 = .ok (.getfield 9, 3) := by decide +kernel
theorem dX2_append_25 : decode cX2_append 25 = .ok (.aload_n 0, 1) := by decide +kernel
theorem dX2_append_26 : decode cX2_append 26 = .ok (.getfield 15, 3) := by decide +kernel
theorem dX2_append_29 : decode cX2_append 29 = .ok (.iload_n 1, 1) := by decide +kernel
theorem dX2_append_30 : decode cX2_append 30 = .ok (.iastore, 1) := by decide +kernel
theorem dX2_append_31 : decode cX2_append 31 = .ok (.aload_n 0, 1) := by decide +kernel
theorem dX2_append_32 : decode cX2_append 32 = .ok (.dup, 1) := by decide +kernel
theorem dX2_append_33 : decode cX2_append 33 = .ok (.getfield 15, 3) := by decide +kernel
theorem dX2_append_36 : decode cX2_append 36 = .ok (.iconst 1, 1) := by decide +kernel
theorem dX2_append_37 : decode cX2_append 37 = .ok (.iadd, 1) := by decide +kernel
theorem dX2_append_38 : decode cX2_append 38 = .ok (.putfield 15, 3) := by decide +kernel
theorem dX2_append_41 : decode cX2_append 41 = .ok (.iconst 1, 1) := by decide +kernel
theorem dX2_append_42 : decode cX2_append 42 = .ok (.ireturn, 1) := by decide +kernel
theorem dX2_clear_0 : decode cX2_clear 0 = .ok (.aload_n 0, 1) := by decide +kernel
theorem dX2_clear_1 : decode cX2_clear 1 = .ok (.iconst 0, 1) := by decide +kernel
theorem dX2_clear_2 : decode cX2_clear 2 = .ok (.putfield 15, 3) := by decide +kernel
theorem dX2_clear_5 : decode cX2_clear 5 = .ok (.return_, 1) := by decide +kernel
theorem dX2_parts_0 : decode cX2_parts 0 = .ok (.aload_n 0, 1) := by decide +kernel
theorem dX2_parts_1 : decode cX2_parts 1 = .ok (.getfield 15, 3) := by decide +kernel
theorem dX2_parts_4 : decode cX2_parts 4 = .ok (.iconst 3, 1) := by decide +kernel
theorem dX2_parts_5 : decode cX2_parts 5 = .ok (.isub, 1) := by decide +kernel
theorem dX2_parts_6 : decode cX2_parts 6 = .ok (.iconst 3, 1) := by decide +kernel
theorem dX2_parts_7 : decode cX2_parts 7 = .ok (.idiv, 1) := by decide +kernel
theorem dX2_parts_8 : decode cX2_parts 8 = .ok (.ireturn, 1) := by decide +kernel
set_option maxRecDepth 20000 in
theorem ggX2_figure_X2_byteAt : GoodIn wsX2_figure wsX2_byteAt := goodIn_r _ [5, 6, 7, 8] (by decide +kernel) (by decide +kernel)
set_option maxRecDepth 20000 in
theorem gX2_figure_X2_byteAt : GoodIn wsX2_figure (wsV RX2 19 RX2 yX2_byteAt wsX2_byteAt) := goodIn_app (goodIn_of _ (by decide +kernel)) ggX2_figure_X2_byteAt
theorem dX2_figure_0 : decode cX2_figure 0 = .ok (.aload_n 0, 1) := by decide +kernel
theorem dX2_figure_1 : decode cX2_figure 1 = .ok (.iload_n 1, 1) := by decide +kernel
theorem dX2_figure_2 : decode cX2_figure 2 = .ok (.invokevirtual 19, 3) := by decide +kernel
theorem dX2_figure_5 : decode cX2_figure 5 = .ok (.bipush 48, 2) := by decide +kernel
theorem dX2_figure_7 : decode cX2_figure 7 = .ok (.isub, 1) := by decide +kernel
theorem dX2_figure_8 : decode cX2_figure 8 = .ok (.ireturn, 1) := by decide +kernel
set_option maxRecDepth 20000 in
theorem ggX2_nerve_X2_figure : GoodIn wsX2_nerve wsX2_figure := goodIn_r _ [5, 6, 7, 8, 4, 9, 10, 11, 12] (by decide +kernel) (by decide +kernel)
set_option maxRecDepth 20000 in
theorem gX2_nerve_X2_figure : GoodIn wsX2_nerve (wsV RX2 23 RX2 yX2_figure wsX2_figure) := goodIn_app (goodIn_of _ (by decide +kernel)) ggX2_nerve_X2_figure
theorem dX2_nerve_0 : decode cX2_nerve 0 = .ok (.aload_n 0, 1) := by decide +kernel
theorem dX2_nerve_1 : decode cX2_nerve 1 = .ok (.iconst 3, 1) := by decide +kernel
theorem dX2_nerve_2 : decode cX2_nerve 2 = .ok (.iload_n 1, 1) := by decide +kernel
theorem dX2_nerve_3 : decode cX2_nerve 3 = .ok (.iconst 3, 1) := by decide +kernel
theorem dX2_nerve_4 : decode cX2_nerve 4 = .ok (.imul, 1) := by decide +kernel
theorem dX2_nerve_5 : decode cX2_nerve 5 = .ok (.iadd, 1) := by decide +kernel
theorem dX2_nerve_6 : decode cX2_nerve 6 = .ok (.iconst 1, 1) := by decide +kernel
theorem dX2_nerve_7 : decode cX2_nerve 7 = .ok (.iadd, 1) := by decide +kernel
theorem dX2_nerve_8 : decode cX2_nerve 8 = .ok (.invokevirtual 23, 3) := by decide +kernel
theorem dX2_nerve_11 : decode cX2_nerve 11 = .ok (.ireturn, 1) := by decide +kernel
set_option maxRecDepth 20000 in
theorem ggX2_kind_X2_figure : GoodIn wsX2_kind wsX2_figure := goodIn_r _ [5, 6, 7, 8, 4, 9, 10, 11, 12] (by decide +kernel) (by decide +kernel)
set_option maxRecDepth 20000 in
theorem gX2_kind_X2_figure : GoodIn wsX2_kind (wsV RX2 23 RX2 yX2_figure wsX2_figure) := goodIn_app (goodIn_of _ (by decide +kernel)) ggX2_kind_X2_figure
theorem dX2_kind_0 : decode cX2_kind 0 = .ok (.aload_n 0, 1) := by decide +kernel
theorem dX2_kind_1 : decode cX2_kind 1 = .ok (.iconst 3, 1) := by decide +kernel
theorem dX2_kind_2 : decode cX2_kind 2 = .ok (.iload_n 1, 1) := by decide +kernel
theorem dX2_kind_3 : decode cX2_kind 3 = .ok (.iconst 3, 1) := by decide +kernel
theorem dX2_kind_4 : decode cX2_kind 4 = .ok (.imul, 1) := by decide +kernel
theorem dX2_kind_5 : decode cX2_kind 5 = .ok (.iadd, 1) := by decide +kernel
theorem dX2_kind_6 : decode cX2_kind 6 = .ok (.iconst 2, 1) := by decide +kernel
theorem dX2_kind_7 : decode cX2_kind 7 = .ok (.iadd, 1) := by decide +kernel
theorem dX2_kind_8 : decode cX2_kind 8 = .ok (.invokevirtual 23, 3) := by decide +kernel
theorem dX2_kind_11 : decode cX2_kind 11 = .ok (.ireturn, 1) := by decide +kernel
set_option maxRecDepth 20000 in
theorem ggX2_firstFault_X2_fits : GoodIn wsX2_firstFault wsX2_fits := goodIn_r _ [6, 7, 8, 9, 5, 10, 11, 12, 13, 14, 15, 16, 17, 18, 19, 20, 21, 22, 23, 24] (by decide +kernel) (by decide +kernel)
set_option maxRecDepth 20000 in
theorem gX2_firstFault_X2_fits : GoodIn wsX2_firstFault (wsV RX2 26 RX2 yX2_fits wsX2_fits) := goodIn_app (goodIn_of _ (by decide +kernel)) ggX2_firstFault_X2_fits
theorem dX2_firstFault_0 : decode cX2_firstFault 0 = .ok (.iconst 0, 1) := by decide +kernel
theorem dX2_firstFault_1 : decode cX2_firstFault 1 = .ok (.istore_n 1, 1) := by decide +kernel
theorem dX2_firstFault_2 : decode cX2_firstFault 2 = .ok (.iload_n 1, 1) := by decide +kernel
theorem dX2_firstFault_3 : decode cX2_firstFault 3 = .ok (.aload_n 0, 1) := by decide +kernel
theorem dX2_firstFault_4 : decode cX2_firstFault 4 = .ok (.getfield 15, 3) := by decide +kernel
theorem dX2_firstFault_7 : decode cX2_firstFault 7 = .ok (.if_icmp .ge 19, 3) := by decide +kernel
theorem dX2_firstFault_10 : decode cX2_firstFault 10 = .ok (.aload_n 0, 1) := by decide +kernel
theorem dX2_firstFault_11 : decode cX2_firstFault 11 = .ok (.iload_n 1, 1) := by decide +kernel
theorem dX2_firstFault_12 : decode cX2_firstFault 12 = .ok (.invokevirtual 26, 3) := by decide +kernel
theorem dX2_firstFault_15 : decode cX2_firstFault 15 = .ok (.ifCond .ne 5, 3) := by decide +kernel
theorem dX2_firstFault_18 : decode cX2_firstFault 18 = .ok (.iload_n 1, 1) := by decide +kernel
theorem dX2_firstFault_19 : decode cX2_firstFault 19 = .ok (.ireturn, 1) := by decide +kernel
theorem dX2_firstFault_20 : decode cX2_firstFault 20 = .ok (.iinc 1 1, 3) := by decide +kernel
theorem dX2_firstFault_23 : decode cX2_firstFault 23 = .ok (.goto (-21), 3) := by decide +kernel
theorem dX2_firstFault_26 : decode cX2_firstFault 26 = .ok (.aload_n 0, 1) := by decide +kernel
theorem dX2_firstFault_27 : decode cX2_firstFault 27 = .ok (.getfield 15, 3) := by decide +kernel
theorem dX2_firstFault_30 : decode cX2_firstFault 30 = .ok (.iconst 3, 1) := by decide +kernel
theorem dX2_firstFault_31 : decode cX2_firstFault 31 = .ok (.if_icmp .lt 18, 3) := by decide +kernel
theorem dX2_firstFault_34 : decode cX2_firstFault 34 = .ok (.aload_n 0, 1) := by decide +kernel
theorem dX2_firstFault_35 : decode cX2_firstFault 35 = .ok (.getfield 15, 3) := by decide +kernel
theorem dX2_firstFault_38 : decode cX2_firstFault 38 = .ok (.iconst 3, 1) := by decide +kernel
theorem dX2_firstFault_39 : decode cX2_firstFault 39 = .ok (.isub, 1) := by decide +kernel
theorem dX2_firstFault_40 : decode cX2_firstFault 40 = .ok (.iconst 3, 1) := by decide +kernel
theorem dX2_firstFault_41 : decode cX2_firstFault 41 = .ok (.irem, 1) := by decide +kernel
theorem dX2_firstFault_42 : decode cX2_firstFault 42 = .ok (.ifCond .ne 7, 3) := by decide +kernel
theorem dX2_firstFault_45 : decode cX2_firstFault 45 = .ok (.iconst 1, 1) := by decide +kernel
theorem dX2_firstFault_46 : decode cX2_firstFault 46 = .ok (.goto 4, 3) := by decide +kernel
theorem dX2_firstFault_49 : decode cX2_firstFault 49 = .ok (.iconst 0, 1) := by decide +kernel
theorem dX2_firstFault_50 : decode cX2_firstFault 50 = .ok (.istore_n 1, 1) := by decide +kernel
theorem dX2_firstFault_51 : decode cX2_firstFault 51 = .ok (.iload_n 1, 1) := by decide +kernel
theorem dX2_firstFault_52 : decode cX2_firstFault 52 = .ok (.ifCond .eq 8, 3) := by decide +kernel
theorem dX2_firstFault_55 : decode cX2_firstFault 55 = .ok (.bipush (-9), 2) := by decide +kernel
theorem dX2_firstFault_57 : decode cX2_firstFault 57 = .ok (.goto 7, 3) := by decide +kernel
theorem dX2_firstFault_60 : decode cX2_firstFault 60 = .ok (.aload_n 0, 1) := by decide +kernel
theorem dX2_firstFault_61 : decode cX2_firstFault 61 = .ok (.getfield 15, 3) := by decide +kernel
theorem dX2_firstFault_64 : decode cX2_firstFault 64 = .ok (.ireturn, 1) := by decide +kernel
set_option maxRecDepth 20000 in
theorem ggX2_fits_X2_byteAt : GoodIn wsX2_fits wsX2_byteAt := goodIn_r _ [5, 6, 18, 19] (by decide +kernel) (by decide +kernel)
set_option maxRecDepth 20000 in
theorem gX2_fits_X2_byteAt : GoodIn wsX2_fits (wsV RX2 19 RX2 yX2_byteAt wsX2_byteAt) := goodIn_app (goodIn_of _ (by decide +kernel)) ggX2_fits_X2_byteAt
set_option maxRecDepth 20000 in
theorem ggX2_fits_X2_figure : GoodIn wsX2_fits wsX2_figure := goodIn_r _ [10, 1, 2, 3, 4, 5, 6, 18, 19] (by decide +kernel) (by decide +kernel)
set_option maxRecDepth 20000 in
theorem gX2_fits_X2_figure : GoodIn wsX2_fits (wsV RX2 23 RX2 yX2_figure wsX2_figure) := goodIn_app (goodIn_of _ (by decide +kernel)) ggX2_fits_X2_figure
set_option maxRecDepth 20000 in
theorem ggX2_fits_X4_within : GoodIn wsX2_fits wsX4_within := goodIn_r _ [13] (by decide +kernel) (by decide +kernel)
set_option maxRecDepth 20000 in
theorem gX2_fits_X4_within_n30 : GoodIn wsX2_fits (wsX4_within) := ggX2_fits_X4_within
set_option maxRecDepth 20000 in
theorem ggX2_fits_X2_fitsPart : GoodIn wsX2_fits wsX2_fitsPart := goodIn_r _ [17, 1, 2, 3, 4, 5, 6, 7, 8, 9, 10, 11, 12, 13, 18, 19] (by decide +kernel) (by decide +kernel)
set_option maxRecDepth 20000 in
theorem gX2_fits_X2_fitsPart : GoodIn wsX2_fits (wsV RX2 34 RX2 yX2_fitsPart wsX2_fitsPart) := goodIn_app (goodIn_of _ (by decide +kernel)) ggX2_fits_X2_fitsPart
theorem dX2_fits_0 : decode cX2_fits 0 = .ok (.iload_n 1, 1) := by decide +kernel
theorem dX2_fits_1 : decode cX2_fits 1 = .ok (.tableswitch 67 0 2 #[27, 43, 55], 27) := by decide +kernel
theorem dX2_fits_28 : decode cX2_fits 28 = .ok (.aload_n 0, 1) := by decide +kernel
theorem dX2_fits_29 : decode cX2_fits 29 = .ok (.iload_n 1, 1) := by decide +kernel
theorem dX2_fits_30 : decode cX2_fits 30 = .ok (.invokevirtual 19, 3) := by decide +kernel
theorem dX2_fits_33 : decode cX2_fits 33 = .ok (.bipush 71, 2) := by decide +kernel
theorem dX2_fits_35 : decode cX2_fits 35 = .ok (.if_icmp .ne 7, 3) := by decide +kernel
theorem dX2_fits_38 : decode cX2_fits 38 = .ok (.iconst 1, 1) := by decide +kernel
theorem dX2_fits_39 : decode cX2_fits 39 = .ok (.goto 4, 3) := by decide +kernel
theorem dX2_fits_42 : decode cX2_fits 42 = .ok (.iconst 0, 1) := by decide +kernel
theorem dX2_fits_43 : decode cX2_fits 43 = .ok (.ireturn, 1) := by decide +kernel
theorem dX2_fits_44 : decode cX2_fits 44 = .ok (.aload_n 0, 1) := by decide +kernel
theorem dX2_fits_45 : decode cX2_fits 45 = .ok (.iload_n 1, 1) := by decide +kernel
theorem dX2_fits_46 : decode cX2_fits 46 = .ok (.invokevirtual 23, 3) := by decide +kernel
theorem dX2_fits_49 : decode cX2_fits 49 = .ok (.iconst 1, 1) := by decide +kernel
theorem dX2_fits_50 : decode cX2_fits 50 = .ok (.bipush 9, 2) := by decide +kernel
theorem dX2_fits_52 : decode cX2_fits 52 = .ok (.invokestatic 30, 3) := by decide +kernel
theorem dX2_fits_55 : decode cX2_fits 55 = .ok (.ireturn, 1) := by decide +kernel
theorem dX2_fits_56 : decode cX2_fits 56 = .ok (.aload_n 0, 1) := by decide +kernel
theorem dX2_fits_57 : decode cX2_fits 57 = .ok (.iload_n 1, 1) := by decide +kernel
theorem dX2_fits_58 : decode cX2_fits 58 = .ok (.invokevirtual 23, 3) := by decide +kernel
theorem dX2_fits_61 : decode cX2_fits 61 = .ok (.iconst 0, 1) := by decide +kernel
theorem dX2_fits_62 : decode cX2_fits 62 = .ok (.bipush 9, 2) := by decide +kernel
theorem dX2_fits_64 : decode cX2_fits 64 = .ok (.invokestatic 30, 3) := by decide +kernel
theorem dX2_fits_67 : decode cX2_fits 67 = .ok (.ireturn, 1) := by decide +kernel
theorem dX2_fits_68 : decode cX2_fits 68 = .ok (.iload_n 1, 1) := by decide +kernel
theorem dX2_fits_69 : decode cX2_fits 69 = .ok (.bipush 18, 2) := by decide +kernel
theorem dX2_fits_71 : decode cX2_fits 71 = .ok (.if_icmp .ge 15, 3) := by decide +kernel
theorem dX2_fits_74 : decode cX2_fits 74 = .ok (.aload_n 0, 1) := by decide +kernel
theorem dX2_fits_75 : decode cX2_fits 75 = .ok (.iload_n 1, 1) := by decide +kernel
theorem dX2_fits_76 : decode cX2_fits 76 = .ok (.invokevirtual 34, 3) := by decide +kernel
theorem dX2_fits_79 : decode cX2_fits 79 = .ok (.ifCond .eq 7, 3) := by decide +kernel
theorem dX2_fits_82 : decode cX2_fits 82 = .ok (.iconst 1, 1) := by decide +kernel
theorem dX2_fits_83 : decode cX2_fits 83 = .ok (.goto 4, 3) := by decide +kernel
theorem dX2_fits_86 : decode cX2_fits 86 = .ok (.iconst 0, 1) := by decide +kernel
theorem dX2_fits_87 : decode cX2_fits 87 = .ok (.ireturn, 1) := by decide +kernel
set_option maxRecDepth 20000 in
theorem ggX2_fitsPart_X2_byteAt : GoodIn wsX2_fitsPart wsX2_byteAt := goodIn_r _ [5, 6, 14, 15] (by decide +kernel) (by decide +kernel)
set_option maxRecDepth 20000 in
theorem gX2_fitsPart_X2_byteAt : GoodIn wsX2_fitsPart (wsV RX2 19 RX2 yX2_byteAt wsX2_byteAt) := goodIn_app (goodIn_of _ (by decide +kernel)) ggX2_fitsPart_X2_byteAt
set_option maxRecDepth 20000 in
theorem ggX2_fitsPart_X2_figure : GoodIn wsX2_fitsPart wsX2_figure := goodIn_r _ [10, 1, 2, 3, 4, 5, 6, 14, 15] (by decide +kernel) (by decide +kernel)
set_option maxRecDepth 20000 in
theorem gX2_fitsPart_X2_figure : GoodIn wsX2_fitsPart (wsV RX2 23 RX2 yX2_figure wsX2_figure) := goodIn_app (goodIn_of _ (by decide +kernel)) ggX2_fitsPart_X2_figure
set_option maxRecDepth 20000 in
theorem ggX2_fitsPart_X4_within : GoodIn wsX2_fitsPart wsX4_within := goodIn_r _ [13] (by decide +kernel) (by decide +kernel)
set_option maxRecDepth 20000 in
theorem gX2_fitsPart_X4_within_n30 : GoodIn wsX2_fitsPart (wsX4_within) := ggX2_fitsPart_X4_within
theorem dX2_fitsPart_0 : decode cX2_fitsPart 0 = .ok (.iload_n 1, 1) := by decide +kernel
theorem dX2_fitsPart_1 : decode cX2_fitsPart 1 = .ok (.iconst 3, 1) := by decide +kernel
theorem dX2_fitsPart_2 : decode cX2_fitsPart 2 = .ok (.isub, 1) := by decide +kernel
theorem dX2_fitsPart_3 : decode cX2_fitsPart 3 = .ok (.iconst 3, 1) := by decide +kernel
theorem dX2_fitsPart_4 : decode cX2_fitsPart 4 = .ok (.irem, 1) := by decide +kernel
theorem dX2_fitsPart_5 : decode cX2_fitsPart 5 = .ok (.lookupswitch 54 #[(0, 27), (1, 43)], 27) := by decide +kernel
theorem dX2_fitsPart_32 : decode cX2_fitsPart 32 = .ok (.aload_n 0, 1) := by decide +kernel
theorem dX2_fitsPart_33 : decode cX2_fitsPart 33 = .ok (.iload_n 1, 1) := by decide +kernel
theorem dX2_fitsPart_34 : decode cX2_fitsPart 34 = .ok (.invokevirtual 19, 3) := by decide +kernel
theorem dX2_fitsPart_37 : decode cX2_fitsPart 37 = .ok (.bipush 87, 2) := by decide +kernel
theorem dX2_fitsPart_39 : decode cX2_fitsPart 39 = .ok (.if_icmp .ne 7, 3) := by decide +kernel
theorem dX2_fitsPart_42 : decode cX2_fitsPart 42 = .ok (.iconst 1, 1) := by decide +kernel
theorem dX2_fitsPart_43 : decode cX2_fitsPart 43 = .ok (.goto 4, 3) := by decide +kernel
theorem dX2_fitsPart_46 : decode cX2_fitsPart 46 = .ok (.iconst 0, 1) := by decide +kernel
theorem dX2_fitsPart_47 : decode cX2_fitsPart 47 = .ok (.ireturn, 1) := by decide +kernel
theorem dX2_fitsPart_48 : decode cX2_fitsPart 48 = .ok (.aload_n 0, 1) := by decide +kernel
theorem dX2_fitsPart_49 : decode cX2_fitsPart 49 = .ok (.iload_n 1, 1) := by decide +kernel
theorem dX2_fitsPart_50 : decode cX2_fitsPart 50 = .ok (.invokevirtual 23, 3) := by decide +kernel
theorem dX2_fitsPart_53 : decode cX2_fitsPart 53 = .ok (.iconst 0, 1) := by decide +kernel
theorem dX2_fitsPart_54 : decode cX2_fitsPart 54 = .ok (.iconst 5, 1) := by decide +kernel
theorem dX2_fitsPart_55 : decode cX2_fitsPart 55 = .ok (.invokestatic 30, 3) := by decide +kernel
theorem dX2_fitsPart_58 : decode cX2_fitsPart 58 = .ok (.ireturn, 1) := by decide +kernel
theorem dX2_fitsPart_59 : decode cX2_fitsPart 59 = .ok (.aload_n 0, 1) := by decide +kernel
theorem dX2_fitsPart_60 : decode cX2_fitsPart 60 = .ok (.iload_n 1, 1) := by decide +kernel
theorem dX2_fitsPart_61 : decode cX2_fitsPart 61 = .ok (.invokevirtual 23, 3) := by decide +kernel
theorem dX2_fitsPart_64 : decode cX2_fitsPart 64 = .ok (.iconst 0, 1) := by decide +kernel
theorem dX2_fitsPart_65 : decode cX2_fitsPart 65 = .ok (.iconst 3, 1) := by decide +kernel
theorem dX2_fitsPart_66 : decode cX2_fitsPart 66 = .ok (.invokestatic 30, 3) := by decide +kernel
theorem dX2_fitsPart_69 : decode cX2_fitsPart 69 = .ok (.ireturn, 1) := by decide +kernel
theorem dX2_byteAt_0 : decode cX2_byteAt 0 = .ok (.iload_n 1, 1) := by decide +kernel
theorem dX2_byteAt_1 : decode cX2_byteAt 1 = .ok (.ifCond .lt 21, 3) := by decide +kernel
theorem dX2_byteAt_4 : decode cX2_byteAt 4 = .ok (.iload_n 1, 1) := by decide +kernel
theorem dX2_byteAt_5 : decode cX2_byteAt 5 = .ok (.aload_n 0, 1) := by decide +kernel
theorem dX2_byteAt_6 : decode cX2_byteAt 6 = .ok (.getfield 9, 3) := by decide +kernel
theorem dX2_byteAt_9 : decode cX2_byteAt 9 = .ok (.arraylength, 1) := by decide +kernel
theorem dX2_byteAt_10 : decode cX2_byteAt 10 = .ok (.if_icmp .ge 12, 3) := by decide +kernel
theorem dX2_byteAt_13 : decode cX2_byteAt 13 = .ok (.aload_n 0, 1) := by decide +kernel
theorem dX2_byteAt_14 : decode cX2_byteAt 14 = .ok (.getfield 9, 3) := by decide +kernel
theorem dX2_byteAt_17 : decode cX2_byteAt 17 = .ok (.iload_n 1, 1) := by decide +kernel
theorem dX2_byteAt_18 : decode cX2_byteAt 18 = .ok (.iaload, 1) := by decide +kernel
theorem dX2_byteAt_19 : decode cX2_byteAt 19 = .ok (.goto 4, 3) := by decide +kernel
theorem dX2_byteAt_22 : decode cX2_byteAt 22 = .ok (.iconst 0, 1) := by decide +kernel
theorem dX2_byteAt_23 : decode cX2_byteAt 23 = .ok (.ireturn, 1) := by decide +kernel
theorem dX3_init_0 : decode cX3_init 0 = .ok (.aload_n 0, 1) := by decide +kernel
theorem dX3_init_1 : decode cX3_init 1 = .ok (.invokespecial 5, 3) := by decide +kernel
theorem dX3_init_4 : decode cX3_init 4 = .ok (.aload_n 0, 1) := by decide +kernel
theorem dX3_init_5 : decode cX3_init 5 = .ok (.iconst 0, 1) := by decide +kernel
theorem dX3_init_6 : decode cX3_init 6 = .ok (.putfield 11, 3) := by decide +kernel
theorem dX3_init_9 : decode cX3_init 9 = .ok (.aload_n 0, 1) := by decide +kernel
theorem dX3_init_10 : decode cX3_init 10 = .ok (.iconst 0, 1) := by decide +kernel
theorem dX3_init_11 : decode cX3_init 11 = .ok (.putfield 15, 3) := by decide +kernel
theorem dX3_init_14 : decode cX3_init 14 = .ok (.aload_n 0, 1) := by decide +kernel
theorem dX3_init_15 : decode cX3_init 15 = .ok (.iconst 0, 1) := by decide +kernel
theorem dX3_init_16 : decode cX3_init 16 = .ok (.putfield 18, 3) := by decide +kernel
theorem dX3_init_19 : decode cX3_init 19 = .ok (.aload_n 0, 1) := by decide +kernel
theorem dX3_init_20 : decode cX3_init 20 = .ok (.iconst 0, 1) := by decide +kernel
theorem dX3_init_21 : decode cX3_init 21 = .ok (.putfield 21, 3) := by decide +kernel
theorem dX3_init_24 : decode cX3_init 24 = .ok (.aload_n 0, 1) := by decide +kernel
theorem dX3_init_25 : decode cX3_init 25 = .ok (.aload_n 1, 1) := by decide +kernel
theorem dX3_init_26 : decode cX3_init 26 = .ok (.putfield 24, 3) := by decide +kernel
theorem dX3_init_29 : decode cX3_init 29 = .ok (.return_, 1) := by decide +kernel
theorem dX3_row_0 : decode cX3_row 0 = .ok (.aload_n 0, 1) := by decide +kernel
theorem dX3_row_1 : decode cX3_row 1 = .ok (.getfield 11, 3) := by decide +kernel
theorem dX3_row_4 : decode cX3_row 4 = .ok (.ireturn, 1) := by decide +kernel
theorem dX3_place_0 : decode cX3_place 0 = .ok (.aload_n 0, 1) := by decide +kernel
theorem dX3_place_1 : decode cX3_place 1 = .ok (.getfield 18, 3) := by decide +kernel
theorem dX3_place_4 : decode cX3_place 4 = .ok (.ireturn, 1) := by decide +kernel
set_option maxRecDepth 20000 in
theorem ggX3_size_X0_size : GoodIn wsX3_size wsX0_size := goodIn_r _ [5, 6, 7, 4, 8] (by decide +kernel) (by decide +kernel)
set_option maxRecDepth 20000 in
theorem gX3_size_X0_size : GoodIn wsX3_size (va_wsS RX3 28 yX0_size wsX0_size) := goodIn_app (goodIn_of _ (by decide +kernel)) ggX3_size_X0_size
theorem dX3_size_0 : decode cX3_size 0 = .ok (.aload_n 0, 1) := by decide +kernel
theorem dX3_size_1 : decode cX3_size 1 = .ok (.getfield 11, 3) := by decide +kernel
theorem dX3_size_4 : decode cX3_size 4 = .ok (.invokestatic 28, 3) := by decide +kernel
theorem dX3_size_7 : decode cX3_size 7 = .ok (.ireturn, 1) := by decide +kernel
set_option maxRecDepth 20000 in
theorem ggX3_members_X0_members : GoodIn wsX3_members wsX0_members := goodIn_r _ [5, 6, 7, 4, 8, 9, 10, 11] (by decide +kernel) (by decide +kernel)
set_option maxRecDepth 20000 in
theorem gX3_members_X0_members : GoodIn wsX3_members (va_wsS RX3 34 yX0_members wsX0_members) := goodIn_app (goodIn_of _ (by decide +kernel)) ggX3_members_X0_members
theorem dX3_members_0 : decode cX3_members 0 = .ok (.aload_n 0, 1) := by decide +kernel
theorem dX3_members_1 : decode cX3_members 1 = .ok (.getfield 11, 3) := by decide +kernel
theorem dX3_members_4 : decode cX3_members 4 = .ok (.invokestatic 34, 3) := by decide +kernel
theorem dX3_members_7 : decode cX3_members 7 = .ok (.ireturn, 1) := by decide +kernel
set_option maxRecDepth 20000 in
theorem ggX3_isOut_X1_light : GoodIn wsX3_isOut wsX1_light := goodIn_r _ [7, 8, 14, 15, 16, 17, 18] (by decide +kernel) (by decide +kernel)
set_option maxRecDepth 20000 in
theorem gX3_isOut_X1_light : GoodIn wsX3_isOut (wsV RX3 37 RX1 yX1_light wsX1_light) := goodIn_app (goodIn_of _ (by decide +kernel)) ggX3_isOut_X1_light
theorem dX3_isOut_0 : decode cX3_isOut 0 = .ok (.aload_n 0, 1) := by decide +kernel
theorem dX3_isOut_1 : decode cX3_isOut 1 = .ok (.getfield 18, 3) := by decide +kernel
theorem dX3_isOut_4 : decode cX3_isOut 4 = .ok (.aload_n 0, 1) := by decide +kernel
theorem dX3_isOut_5 : decode cX3_isOut 5 = .ok (.getfield 24, 3) := by decide +kernel
theorem dX3_isOut_8 : decode cX3_isOut 8 = .ok (.invokevirtual 37, 3) := by decide +kernel
theorem dX3_isOut_11 : decode cX3_isOut 11 = .ok (.if_icmp .lt 7, 3) := by decide +kernel
theorem dX3_isOut_14 : decode cX3_isOut 14 = .ok (.iconst 1, 1) := by decide +kernel
theorem dX3_isOut_15 : decode cX3_isOut 15 = .ok (.goto 4, 3) := by decide +kernel
theorem dX3_isOut_18 : decode cX3_isOut 18 = .ok (.iconst 0, 1) := by decide +kernel
theorem dX3_isOut_19 : decode cX3_isOut 19 = .ok (.ireturn, 1) := by decide +kernel
set_option maxRecDepth 20000 in
theorem ggX3_quiet_X0_at : GoodIn wsX3_quiet wsX0_at := goodIn_r _ [5] (by decide +kernel) (by decide +kernel)
set_option maxRecDepth 20000 in
theorem gX3_quiet_X0_at : GoodIn wsX3_quiet (va_wsS RX3 43 yX0_at wsX0_at) := goodIn_app (goodIn_of _ (by decide +kernel)) ggX3_quiet_X0_at
theorem dX3_quiet_0 : decode cX3_quiet 0 = .ok (.aload_n 0, 1) := by decide +kernel
theorem dX3_quiet_1 : decode cX3_quiet 1 = .ok (.getfield 15, 3) := by decide +kernel
theorem dX3_quiet_4 : decode cX3_quiet 4 = .ok (.iload_n 1, 1) := by decide +kernel
theorem dX3_quiet_5 : decode cX3_quiet 5 = .ok (.invokestatic 43, 3) := by decide +kernel
theorem dX3_quiet_8 : decode cX3_quiet 8 = .ok (.ireturn, 1) := by decide +kernel
theorem dX3_turned_0 : decode cX3_turned 0 = .ok (.aload_n 0, 1) := by decide +kernel
theorem dX3_turned_1 : decode cX3_turned 1 = .ok (.getfield 21, 3) := by decide +kernel
theorem dX3_turned_4 : decode cX3_turned 4 = .ok (.ireturn, 1) := by decide +kernel
set_option maxRecDepth 20000 in
theorem ggX3_indexOf_X3_size : GoodIn wsX3_indexOf wsX3_size := goodIn_r _ [5, 6, 7, 8, 9, 10, 11, 12, 13, 19, 20, 21, 22, 23] (by decide +kernel) (by decide +kernel)
set_option maxRecDepth 20000 in
theorem gX3_indexOf_X3_size : GoodIn wsX3_indexOf (wsV RX3 47 RX3 yX3_size wsX3_size) := goodIn_app (goodIn_of _ (by decide +kernel)) ggX3_indexOf_X3_size
set_option maxRecDepth 20000 in
theorem ggX3_indexOf_X3_walkerAt : GoodIn wsX3_indexOf wsX3_walkerAt := goodIn_r _ [17, 6, 18, 12, 9, 13, 19, 20, 21, 22, 23] (by decide +kernel) (by decide +kernel)
set_option maxRecDepth 20000 in
theorem gX3_indexOf_X3_walkerAt : GoodIn wsX3_indexOf (wsV RX3 49 RX3 yX3_walkerAt wsX3_walkerAt) := goodIn_app (goodIn_of _ (by decide +kernel)) ggX3_indexOf_X3_walkerAt
theorem dX3_indexOf_0 : decode cX3_indexOf 0 = .ok (.iconst 0, 1) := by decide +kernel
theorem dX3_indexOf_1 : decode cX3_indexOf 1 = .ok (.istore_n 2, 1) := by decide +kernel
theorem dX3_indexOf_2 : decode cX3_indexOf 2 = .ok (.iload_n 2, 1) := by decide +kernel
theorem dX3_indexOf_3 : decode cX3_indexOf 3 = .ok (.aload_n 0, 1) := by decide +kernel
theorem dX3_indexOf_4 : decode cX3_indexOf 4 = .ok (.invokevirtual 47, 3) := by decide +kernel
theorem dX3_indexOf_7 : decode cX3_indexOf 7 = .ok (.if_icmp .ge 20, 3) := by decide +kernel
theorem dX3_indexOf_10 : decode cX3_indexOf 10 = .ok (.aload_n 0, 1) := by decide +kernel
theorem dX3_indexOf_11 : decode cX3_indexOf 11 = .ok (.iload_n 2, 1) := by decide +kernel
theorem dX3_indexOf_12 : decode cX3_indexOf 12 = .ok (.invokevirtual 49, 3) := by decide +kernel
theorem dX3_indexOf_15 : decode cX3_indexOf 15 = .ok (.iload_n 1, 1) := by decide +kernel
theorem dX3_indexOf_16 : decode cX3_indexOf 16 = .ok (.if_icmp .ne 5, 3) := by decide +kernel
theorem dX3_indexOf_19 : decode cX3_indexOf 19 = .ok (.iload_n 2, 1) := by decide +kernel
theorem dX3_indexOf_20 : decode cX3_indexOf 20 = .ok (.ireturn, 1) := by decide +kernel
theorem dX3_indexOf_21 : decode cX3_indexOf 21 = .ok (.iinc 2 1, 3) := by decide +kernel
theorem dX3_indexOf_24 : decode cX3_indexOf 24 = .ok (.goto (-22), 3) := by decide +kernel
theorem dX3_indexOf_27 : decode cX3_indexOf 27 = .ok (.bipush (-9), 2) := by decide +kernel
theorem dX3_indexOf_29 : decode cX3_indexOf 29 = .ok (.ireturn, 1) := by decide +kernel
set_option maxRecDepth 20000 in
theorem ggX3_behind_X3_indexOf : GoodIn wsX3_behind wsX3_indexOf := goodIn_r _ [5, 6, 7, 8, 4, 9, 10, 11, 12, 13, 14, 15, 16, 17, 18, 19, 20, 21, 22, 23, 24, 25, 26, 27] (by decide +kernel) (by decide +kernel)
set_option maxRecDepth 20000 in
theorem gX3_behind_X3_indexOf : GoodIn wsX3_behind (wsV RX3 52 RX3 yX3_indexOf wsX3_indexOf) := goodIn_app (goodIn_of _ (by decide +kernel)) ggX3_behind_X3_indexOf
set_option maxRecDepth 20000 in
theorem ggX3_behind_X3_size : GoodIn wsX3_behind wsX3_size := goodIn_r _ [9, 10, 11, 12, 13, 14, 15, 16, 17, 23, 24, 25, 26, 27] (by decide +kernel) (by decide +kernel)
set_option maxRecDepth 20000 in
theorem gX3_behind_X3_size : GoodIn wsX3_behind (wsV RX3 47 RX3 yX3_size wsX3_size) := goodIn_app (goodIn_of _ (by decide +kernel)) ggX3_behind_X3_size
set_option maxRecDepth 20000 in
theorem ggX3_behind_X3_walkerAt : GoodIn wsX3_behind wsX3_walkerAt := goodIn_r _ [21, 10, 22, 16, 13, 17, 23, 24, 25, 26, 27] (by decide +kernel) (by decide +kernel)
set_option maxRecDepth 20000 in
theorem gX3_behind_X3_walkerAt : GoodIn wsX3_behind (wsV RX3 49 RX3 yX3_walkerAt wsX3_walkerAt) := goodIn_app (goodIn_of _ (by decide +kernel)) ggX3_behind_X3_walkerAt
theorem dX3_behind_0 : decode cX3_behind 0 = .ok (.aload_n 0, 1) := by decide +kernel
theorem dX3_behind_1 : decode cX3_behind 1 = .ok (.iload_n 1, 1) := by decide +kernel
theorem dX3_behind_2 : decode cX3_behind 2 = .ok (.invokevirtual 52, 3) := by decide +kernel
theorem dX3_behind_5 : decode cX3_behind 5 = .ok (.istore_n 2, 1) := by decide +kernel
theorem dX3_behind_6 : decode cX3_behind 6 = .ok (.iload_n 2, 1) := by decide +kernel
theorem dX3_behind_7 : decode cX3_behind 7 = .ok (.bipush (-9), 2) := by decide +kernel
theorem dX3_behind_9 : decode cX3_behind 9 = .ok (.if_icmp .eq 13, 3) := by decide +kernel
theorem dX3_behind_12 : decode cX3_behind 12 = .ok (.iload_n 2, 1) := by decide +kernel
theorem dX3_behind_13 : decode cX3_behind 13 = .ok (.iconst 1, 1) := by decide +kernel
theorem dX3_behind_14 : decode cX3_behind 14 = .ok (.iadd, 1) := by decide +kernel
theorem dX3_behind_15 : decode cX3_behind 15 = .ok (.aload_n 0, 1) := by decide +kernel
theorem dX3_behind_16 : decode cX3_behind 16 = .ok (.invokevirtual 47, 3) := by decide +kernel
theorem dX3_behind_19 : decode cX3_behind 19 = .ok (.if_icmp .lt 8, 3) := by decide +kernel
theorem dX3_behind_22 : decode cX3_behind 22 = .ok (.bipush (-9), 2) := by decide +kernel
theorem dX3_behind_24 : decode cX3_behind 24 = .ok (.goto 10, 3) := by decide +kernel
theorem dX3_behind_27 : decode cX3_behind 27 = .ok (.aload_n 0, 1) := by decide +kernel
theorem dX3_behind_28 : decode cX3_behind 28 = .ok (.iload_n 2, 1) := by decide +kernel
theorem dX3_behind_29 : decode cX3_behind 29 = .ok (.iconst 1, 1) := by decide +kernel
theorem dX3_behind_30 : decode cX3_behind 30 = .ok (.iadd, 1) := by decide +kernel
theorem dX3_behind_31 : decode cX3_behind 31 = .ok (.invokevirtual 49, 3) := by decide +kernel
theorem dX3_behind_34 : decode cX3_behind 34 = .ok (.ireturn, 1) := by decide +kernel
set_option maxRecDepth 20000 in
theorem ggX3_start_X1_everybody : GoodIn wsX3_start wsX1_everybody := goodIn_r _ [6, 7, 28, 29, 30, 31, 32] (by decide +kernel) (by decide +kernel)
set_option maxRecDepth 20000 in
theorem gX3_start_X1_everybody : GoodIn wsX3_start (wsV RX3 55 RX1 yX1_everybody wsX1_everybody) := goodIn_app (goodIn_of _ (by decide +kernel)) ggX3_start_X1_everybody
set_option maxRecDepth 20000 in
theorem ggX3_start_X0_ascending : GoodIn wsX3_start wsX0_ascending := goodIn_r _ [11, 12, 13, 10, 14] (by decide +kernel) (by decide +kernel)
set_option maxRecDepth 20000 in
theorem gX3_start_X0_ascending : GoodIn wsX3_start (va_wsS RX3 58 yX0_ascending wsX0_ascending) := goodIn_app (goodIn_of _ (by decide +kernel)) ggX3_start_X0_ascending
set_option maxRecDepth 20000 in
theorem ggX3_start_X3_lineUp : GoodIn wsX3_start wsX3_lineUp := goodIn_r _ [19, 20, 21, 22, 23, 24, 25, 26, 27] (by decide +kernel) (by decide +kernel)
set_option maxRecDepth 20000 in
theorem gX3_start_X3_lineUp : GoodIn wsX3_start (wsV RX3 61 RX3 yX3_lineUp wsX3_lineUp) := goodIn_app (goodIn_of _ (by decide +kernel)) ggX3_start_X3_lineUp
theorem dX3_start_0 : decode cX3_start 0 = .ok (.aload_n 0, 1) := by decide +kernel
theorem dX3_start_1 : decode cX3_start 1 = .ok (.aload_n 0, 1) := by decide +kernel
theorem dX3_start_2 : decode cX3_start 2 = .ok (.getfield 24, 3) := by decide +kernel
theorem dX3_start_5 : decode cX3_start 5 = .ok (.invokevirtual 55, 3) := by decide +kernel
theorem dX3_start_8 : decode cX3_start 8 = .ok (.invokestatic 58, 3) := by decide +kernel
theorem dX3_start_11 : decode cX3_start 11 = .ok (.iconst 0, 1) := by decide +kernel
theorem dX3_start_12 : decode cX3_start 12 = .ok (.invokevirtual 61, 3) := by decide +kernel
theorem dX3_start_15 : decode cX3_start 15 = .ok (.return_, 1) := by decide +kernel
theorem dX3_lineUp_0 : decode cX3_lineUp 0 = .ok (.aload_n 0, 1) := by decide +kernel
theorem dX3_lineUp_1 : decode cX3_lineUp 1 = .ok (.iload_n 1, 1) := by decide +kernel
theorem dX3_lineUp_2 : decode cX3_lineUp 2 = .ok (.putfield 11, 3) := by decide +kernel
theorem dX3_lineUp_5 : decode cX3_lineUp 5 = .ok (.aload_n 0, 1) := by decide +kernel
theorem dX3_lineUp_6 : decode cX3_lineUp 6 = .ok (.iconst 0, 1) := by decide +kernel
theorem dX3_lineUp_7 : decode cX3_lineUp 7 = .ok (.putfield 15, 3) := by decide +kernel
theorem dX3_lineUp_10 : decode cX3_lineUp 10 = .ok (.aload_n 0, 1) := by decide +kernel
theorem dX3_lineUp_11 : decode cX3_lineUp 11 = .ok (.iload_n 2, 1) := by decide +kernel
theorem dX3_lineUp_12 : decode cX3_lineUp 12 = .ok (.putfield 18, 3) := by decide +kernel
theorem dX3_lineUp_15 : decode cX3_lineUp 15 = .ok (.return_, 1) := by decide +kernel
theorem dX3_state_0 : decode cX3_state 0 = .ok (.aload_n 0, 1) := by decide +kernel
theorem dX3_state_1 : decode cX3_state 1 = .ok (.getfield 18, 3) := by decide +kernel
theorem dX3_state_4 : decode cX3_state 4 = .ok (.i2l, 1) := by decide +kernel
theorem dX3_state_5 : decode cX3_state 5 = .ok (.bipush 20, 2) := by decide +kernel
theorem dX3_state_7 : decode cX3_state 7 = .ok (.lshl, 1) := by decide +kernel
theorem dX3_state_8 : decode cX3_state 8 = .ok (.aload_n 0, 1) := by decide +kernel
theorem dX3_state_9 : decode cX3_state 9 = .ok (.getfield 15, 3) := by decide +kernel
theorem dX3_state_12 : decode cX3_state 12 = .ok (.i2l, 1) := by decide +kernel
theorem dX3_state_13 : decode cX3_state 13 = .ok (.lor, 1) := by decide +kernel
theorem dX3_state_14 : decode cX3_state 14 = .ok (.bipush 20, 2) := by decide +kernel
theorem dX3_state_16 : decode cX3_state 16 = .ok (.lshl, 1) := by decide +kernel
theorem dX3_state_17 : decode cX3_state 17 = .ok (.aload_n 0, 1) := by decide +kernel
theorem dX3_state_18 : decode cX3_state 18 = .ok (.getfield 11, 3) := by decide +kernel
theorem dX3_state_21 : decode cX3_state 21 = .ok (.i2l, 1) := by decide +kernel
theorem dX3_state_22 : decode cX3_state 22 = .ok (.lor, 1) := by decide +kernel
theorem dX3_state_23 : decode cX3_state 23 = .ok (.lreturn, 1) := by decide +kernel
theorem dX3_become_0 : decode cX3_become 0 = .ok (.aload_n 0, 1) := by decide +kernel
theorem dX3_become_1 : decode cX3_become 1 = .ok (.lload_n 1, 1) := by decide +kernel
theorem dX3_become_2 : decode cX3_become 2 = .ok (.l2i, 1) := by decide +kernel
theorem dX3_become_3 : decode cX3_become 3 = .ok (.ldc 65, 2) := by decide +kernel
theorem dX3_become_5 : decode cX3_become 5 = .ok (.iand, 1) := by decide +kernel
theorem dX3_become_6 : decode cX3_become 6 = .ok (.putfield 11, 3) := by decide +kernel
theorem dX3_become_9 : decode cX3_become 9 = .ok (.aload_n 0, 1) := by decide +kernel
theorem dX3_become_10 : decode cX3_become 10 = .ok (.lload_n 1, 1) := by decide +kernel
theorem dX3_become_11 : decode cX3_become 11 = .ok (.bipush 20, 2) := by decide +kernel
theorem dX3_become_13 : decode cX3_become 13 = .ok (.lushr, 1) := by decide +kernel
theorem dX3_become_14 : decode cX3_become 14 = .ok (.l2i, 1) := by decide +kernel
theorem dX3_become_15 : decode cX3_become 15 = .ok (.ldc 65, 2) := by decide +kernel
theorem dX3_become_17 : decode cX3_become 17 = .ok (.iand, 1) := by decide +kernel
theorem dX3_become_18 : decode cX3_become 18 = .ok (.putfield 15, 3) := by decide +kernel
theorem dX3_become_21 : decode cX3_become 21 = .ok (.aload_n 0, 1) := by decide +kernel
theorem dX3_become_22 : decode cX3_become 22 = .ok (.lload_n 1, 1) := by decide +kernel
theorem dX3_become_23 : decode cX3_become 23 = .ok (.bipush 40, 2) := by decide +kernel
theorem dX3_become_25 : decode cX3_become 25 = .ok (.lushr, 1) := by decide +kernel
theorem dX3_become_26 : decode cX3_become 26 = .ok (.l2i, 1) := by decide +kernel
theorem dX3_become_27 : decode cX3_become 27 = .ok (.putfield 18, 3) := by decide +kernel
theorem dX3_become_30 : decode cX3_become 30 = .ok (.return_, 1) := by decide +kernel
set_option maxRecDepth 20000 in
theorem ggX3_changePlaces_X0_swapped : GoodIn wsX3_changePlaces wsX0_swapped := goodIn_r _ [5, 6, 7, 4, 8, 9, 10, 11] (by decide +kernel) (by decide +kernel)
set_option maxRecDepth 20000 in
theorem gX3_changePlaces_X0_swapped : GoodIn wsX3_changePlaces (va_wsS RX3 66 yX0_swapped wsX0_swapped) := goodIn_app (goodIn_of _ (by decide +kernel)) ggX3_changePlaces_X0_swapped
set_option maxRecDepth 20000 in
theorem ggX3_changePlaces_X3_walkerAt : GoodIn wsX3_changePlaces wsX3_walkerAt := goodIn_r _ [16, 1, 17, 7, 4, 8, 24, 25, 26, 27, 28] (by decide +kernel) (by decide +kernel)
set_option maxRecDepth 20000 in
theorem gX3_changePlaces_X3_walkerAt : GoodIn wsX3_changePlaces (wsV RX3 49 RX3 yX3_walkerAt wsX3_walkerAt) := goodIn_app (goodIn_of _ (by decide +kernel)) ggX3_changePlaces_X3_walkerAt
set_option maxRecDepth 20000 in
theorem ggX3_changePlaces_X3_setQuiet : GoodIn wsX3_changePlaces wsX3_setQuiet := goodIn_r _ [21, 22, 23, 10, 4, 11, 24, 25, 26, 27, 28] (by decide +kernel) (by decide +kernel)
set_option maxRecDepth 20000 in
theorem gX3_changePlaces_X3_setQuiet : GoodIn wsX3_changePlaces (wsV RX3 70 RX3 yX3_setQuiet wsX3_setQuiet) := goodIn_app (goodIn_of _ (by decide +kernel)) ggX3_changePlaces_X3_setQuiet
theorem dX3_changePlaces_0 : decode cX3_changePlaces 0 = .ok (.aload_n 0, 1) := by decide +kernel
theorem dX3_changePlaces_1 : decode cX3_changePlaces 1 = .ok (.aload_n 0, 1) := by decide +kernel
theorem dX3_changePlaces_2 : decode cX3_changePlaces 2 = .ok (.getfield 11, 3) := by decide +kernel
theorem dX3_changePlaces_5 : decode cX3_changePlaces 5 = .ok (.iload_n 1, 1) := by decide +kernel
theorem dX3_changePlaces_6 : decode cX3_changePlaces 6 = .ok (.iload_n 1, 1) := by decide +kernel
theorem dX3_changePlaces_7 : decode cX3_changePlaces 7 = .ok (.iconst 1, 1) := by decide +kernel
theorem dX3_changePlaces_8 : decode cX3_changePlaces 8 = .ok (.iadd, 1) := by decide +kernel
theorem dX3_changePlaces_9 : decode cX3_changePlaces 9 = .ok (.invokestatic 66, 3) := by decide +kernel
theorem dX3_changePlaces_12 : decode cX3_changePlaces 12 = .ok (.putfield 11, 3) := by decide +kernel
theorem dX3_changePlaces_15 : decode cX3_changePlaces 15 = .ok (.aload_n 0, 1) := by decide +kernel
theorem dX3_changePlaces_16 : decode cX3_changePlaces 16 = .ok (.aload_n 0, 1) := by decide +kernel
theorem dX3_changePlaces_17 : decode cX3_changePlaces 17 = .ok (.iload_n 1, 1) := by decide +kernel
theorem dX3_changePlaces_18 : decode cX3_changePlaces 18 = .ok (.invokevirtual 49, 3) := by decide +kernel
theorem dX3_changePlaces_21 : decode cX3_changePlaces 21 = .ok (.iconst 0, 1) := by decide +kernel
theorem dX3_changePlaces_22 : decode cX3_changePlaces 22 = .ok (.invokevirtual 70, 3) := by decide +kernel
theorem dX3_changePlaces_25 : decode cX3_changePlaces 25 = .ok (.aload_n 0, 1) := by decide +kernel
theorem dX3_changePlaces_26 : decode cX3_changePlaces 26 = .ok (.aload_n 0, 1) := by decide +kernel
theorem dX3_changePlaces_27 : decode cX3_changePlaces 27 = .ok (.iload_n 1, 1) := by decide +kernel
theorem dX3_changePlaces_28 : decode cX3_changePlaces 28 = .ok (.iconst 1, 1) := by decide +kernel
theorem dX3_changePlaces_29 : decode cX3_changePlaces 29 = .ok (.iadd, 1) := by decide +kernel
theorem dX3_changePlaces_30 : decode cX3_changePlaces 30 = .ok (.invokevirtual 49, 3) := by decide +kernel
theorem dX3_changePlaces_33 : decode cX3_changePlaces 33 = .ok (.iconst 0, 1) := by decide +kernel
theorem dX3_changePlaces_34 : decode cX3_changePlaces 34 = .ok (.invokevirtual 70, 3) := by decide +kernel
theorem dX3_changePlaces_37 : decode cX3_changePlaces 37 = .ok (.return_, 1) := by decide +kernel
set_option maxRecDepth 20000 in
theorem ggX3_calm_X3_size : GoodIn wsX3_calm wsX3_size := goodIn_r _ [5, 6, 7, 8, 9, 10, 11, 12, 13, 31, 32, 33, 34, 35] (by decide +kernel) (by decide +kernel)
set_option maxRecDepth 20000 in
theorem gX3_calm_X3_size : GoodIn wsX3_calm (wsV RX3 47 RX3 yX3_size wsX3_size) := goodIn_app (goodIn_of _ (by decide +kernel)) ggX3_calm_X3_size
set_option maxRecDepth 20000 in
theorem ggX3_calm_X3_walkerAt : GoodIn wsX3_calm wsX3_walkerAt := goodIn_r _ [17, 6, 18, 12, 9, 13, 31, 32, 33, 34, 35] (by decide +kernel) (by decide +kernel)
set_option maxRecDepth 20000 in
theorem gX3_calm_X3_walkerAt : GoodIn wsX3_calm (wsV RX3 49 RX3 yX3_walkerAt wsX3_walkerAt) := goodIn_app (goodIn_of _ (by decide +kernel)) ggX3_calm_X3_walkerAt
set_option maxRecDepth 20000 in
theorem ggX3_calm_X3_quiet : GoodIn wsX3_calm wsX3_quiet := goodIn_r _ [22, 23, 18, 12, 9, 13, 31, 32, 33, 34, 35] (by decide +kernel) (by decide +kernel)
set_option maxRecDepth 20000 in
theorem gX3_calm_X3_quiet : GoodIn wsX3_calm (wsV RX3 73 RX3 yX3_quiet wsX3_quiet) := goodIn_app (goodIn_of _ (by decide +kernel)) ggX3_calm_X3_quiet
set_option maxRecDepth 20000 in
theorem ggX3_calm_X3_setQuiet : GoodIn wsX3_calm wsX3_setQuiet := goodIn_r _ [27, 23, 28, 29, 9, 30, 31, 32, 33, 34, 35] (by decide +kernel) (by decide +kernel)
set_option maxRecDepth 20000 in
theorem gX3_calm_X3_setQuiet : GoodIn wsX3_calm (wsV RX3 70 RX3 yX3_setQuiet wsX3_setQuiet) := goodIn_app (goodIn_of _ (by decide +kernel)) ggX3_calm_X3_setQuiet
theorem dX3_calm_0 : decode cX3_calm 0 = .ok (.iconst 0, 1) := by decide +kernel
theorem dX3_calm_1 : decode cX3_calm 1 = .ok (.istore_n 1, 1) := by decide +kernel
theorem dX3_calm_2 : decode cX3_calm 2 = .ok (.iconst 0, 1) := by decide +kernel
theorem dX3_calm_3 : decode cX3_calm 3 = .ok (.istore_n 2, 1) := by decide +kernel
theorem dX3_calm_4 : decode cX3_calm 4 = .ok (.iload_n 2, 1) := by decide +kernel
theorem dX3_calm_5 : decode cX3_calm 5 = .ok (.aload_n 0, 1) := by decide +kernel
theorem dX3_calm_6 : decode cX3_calm 6 = .ok (.invokevirtual 47, 3) := by decide +kernel
theorem dX3_calm_9 : decode cX3_calm 9 = .ok (.if_icmp .ge 34, 3) := by decide +kernel
theorem dX3_calm_12 : decode cX3_calm 12 = .ok (.aload_n 0, 1) := by decide +kernel
theorem dX3_calm_13 : decode cX3_calm 13 = .ok (.aload_n 0, 1) := by decide +kernel
theorem dX3_calm_14 : decode cX3_calm 14 = .ok (.iload_n 2, 1) := by decide +kernel
theorem dX3_calm_15 : decode cX3_calm 15 = .ok (.invokevirtual 49, 3) := by decide +kernel
theorem dX3_calm_18 : decode cX3_calm 18 = .ok (.invokevirtual 73, 3) := by decide +kernel
theorem dX3_calm_21 : decode cX3_calm 21 = .ok (.ifCond .le 16, 3) := by decide +kernel
theorem dX3_calm_24 : decode cX3_calm 24 = .ok (.iinc 1 1, 3) := by decide +kernel
theorem dX3_calm_27 : decode cX3_calm 27 = .ok (.aload_n 0, 1) := by decide +kernel
theorem dX3_calm_28 : decode cX3_calm 28 = .ok (.aload_n 0, 1) := by decide +kernel
theorem dX3_calm_29 : decode cX3_calm 29 = .ok (.iload_n 2, 1) := by decide +kernel
theorem dX3_calm_30 : decode cX3_calm 30 = .ok (.invokevirtual 49, 3) := by decide +kernel
theorem dX3_calm_33 : decode cX3_calm 33 = .ok (.iconst 0, 1) := by decide +kernel
theorem dX3_calm_34 : decode cX3_calm 34 = .ok (.invokevirtual 70, 3) := by decide +kernel
theorem dX3_calm_37 : decode cX3_calm 37 = .ok (.iinc 2 1, 3) := by decide +kernel
theorem dX3_calm_40 : decode cX3_calm 40 = .ok (.goto (-36), 3) := by decide +kernel
theorem dX3_calm_43 : decode cX3_calm 43 = .ok (.iload_n 1, 1) := by decide +kernel
theorem dX3_calm_44 : decode cX3_calm 44 = .ok (.ireturn, 1) := by decide +kernel
set_option maxRecDepth 20000 in
theorem ggX3_sing_X3_isOut : GoodIn wsX3_sing wsX3_isOut := goodIn_r _ [6, 7, 8, 9, 10, 11, 12, 13, 14, 79, 80, 81, 82, 83, 84, 85, 86, 87, 88] (by decide +kernel) (by decide +kernel)
set_option maxRecDepth 20000 in
theorem gX3_sing_X3_isOut : GoodIn wsX3_sing (wsV RX3 76 RX3 yX3_isOut wsX3_isOut) := goodIn_app (goodIn_of _ (by decide +kernel)) ggX3_sing_X3_isOut
set_option maxRecDepth 20000 in
theorem ggX3_sing_X3_treadsOf : GoodIn wsX3_sing wsX3_treadsOf := goodIn_r _ [17, 18] (by decide +kernel) (by decide +kernel)
set_option maxRecDepth 20000 in
theorem gX3_sing_X3_treadsOf : GoodIn wsX3_sing (va_wsS RX3 80 yX3_treadsOf wsX3_treadsOf) := goodIn_app (goodIn_of _ (by decide +kernel)) ggX3_sing_X3_treadsOf
set_option maxRecDepth 20000 in
theorem ggX3_sing_X3_step : GoodIn wsX3_sing wsX3_step := goodIn_r _ [22, 8, 7, 23, 24, 25, 5, 26, 27, 28, 29, 30, 31, 32, 33, 34, 35, 36, 37, 38, 39, 40, 41, 42, 12, 43, 44, 45, 46, 47, 48, 49, 50, 51, 52, 53, 54, 55, 56, 57, 58, 59, 60, 61, 62, 63, 64, 65, 66, 67, 68, 69, 70, 1, 71, 72, 73, 74, 75, 76, 77, 78, 79, 80, 81, 82, 83, 84, 85, 86, 87, 88] (by decide +kernel) (by decide +kernel)
set_option maxRecDepth 20000 in
theorem gX3_sing_X3_step : GoodIn wsX3_sing (wsV RX3 84 RX3 yX3_step wsX3_step) := goodIn_app (goodIn_of _ (by decide +kernel)) ggX3_sing_X3_step
theorem dX3_sing_0 : decode cX3_sing 0 = .ok (.bipush (-9), 2) := by decide +kernel
theorem dX3_sing_2 : decode cX3_sing 2 = .ok (.istore 4, 2) := by decide +kernel
theorem dX3_sing_4 : decode cX3_sing 4 = .ok (.iconst 0, 1) := by decide +kernel
theorem dX3_sing_5 : decode cX3_sing 5 = .ok (.istore 5, 2) := by decide +kernel
theorem dX3_sing_7 : decode cX3_sing 7 = .ok (.iload 5, 2) := by decide +kernel
theorem dX3_sing_9 : decode cX3_sing 9 = .ok (.iload_n 1, 1) := by decide +kernel
theorem dX3_sing_10 : decode cX3_sing 10 = .ok (.if_icmp .ge 49, 3) := by decide +kernel
theorem dX3_sing_13 : decode cX3_sing 13 = .ok (.aload_n 0, 1) := by decide +kernel
theorem dX3_sing_14 : decode cX3_sing 14 = .ok (.invokevirtual 76, 3) := by decide +kernel
theorem dX3_sing_17 : decode cX3_sing 17 = .ok (.ifCond .ne 42, 3) := by decide +kernel
theorem dX3_sing_20 : decode cX3_sing 20 = .ok (.aload_n 0, 1) := by decide +kernel
theorem dX3_sing_21 : decode cX3_sing 21 = .ok (.lload_n 2, 1) := by decide +kernel
theorem dX3_sing_22 : decode cX3_sing 22 = .ok (.iload_n 1, 1) := by decide +kernel
theorem dX3_sing_23 : decode cX3_sing 23 = .ok (.iconst 1, 1) := by decide +kernel
theorem dX3_sing_24 : decode cX3_sing 24 = .ok (.isub, 1) := by decide +kernel
theorem dX3_sing_25 : decode cX3_sing 25 = .ok (.iload 5, 2) := by decide +kernel
theorem dX3_sing_27 : decode cX3_sing 27 = .ok (.isub, 1) := by decide +kernel
theorem dX3_sing_28 : decode cX3_sing 28 = .ok (.invokestatic 80, 3) := by decide +kernel
theorem dX3_sing_31 : decode cX3_sing 31 = .ok (.invokevirtual 84, 3) := by decide +kernel
theorem dX3_sing_34 : decode cX3_sing 34 = .ok (.pop, 1) := by decide +kernel
theorem dX3_sing_35 : decode cX3_sing 35 = .ok (.aload_n 0, 1) := by decide +kernel
theorem dX3_sing_36 : decode cX3_sing 36 = .ok (.getfield 21, 3) := by decide +kernel
theorem dX3_sing_39 : decode cX3_sing 39 = .ok (.ifCond .eq 14, 3) := by decide +kernel
theorem dX3_sing_42 : decode cX3_sing 42 = .ok (.iload 4, 2) := by decide +kernel
theorem dX3_sing_44 : decode cX3_sing 44 = .ok (.bipush (-9), 2) := by decide +kernel
theorem dX3_sing_46 : decode cX3_sing 46 = .ok (.if_icmp .ne 7, 3) := by decide +kernel
theorem dX3_sing_49 : decode cX3_sing 49 = .ok (.iload 5, 2) := by decide +kernel
theorem dX3_sing_51 : decode cX3_sing 51 = .ok (.istore 4, 2) := by decide +kernel
theorem dX3_sing_53 : decode cX3_sing 53 = .ok (.iinc 5 1, 3) := by decide +kernel
theorem dX3_sing_56 : decode cX3_sing 56 = .ok (.goto (-49), 3) := by decide +kernel
theorem dX3_sing_59 : decode cX3_sing 59 = .ok (.iload 4, 2) := by decide +kernel
theorem dX3_sing_61 : decode cX3_sing 61 = .ok (.ireturn, 1) := by decide +kernel
set_option maxRecDepth 20000 in
theorem ggX3_step_X3_size : GoodIn wsX3_step wsX3_size := goodIn_r _ [7, 8, 9, 10, 11, 12, 13, 14, 15, 62, 63, 64, 65, 66] (by decide +kernel) (by decide +kernel)
set_option maxRecDepth 20000 in
theorem gX3_step_X3_size : GoodIn wsX3_step (wsV RX3 47 RX3 yX3_size wsX3_size) := goodIn_app (goodIn_of _ (by decide +kernel)) ggX3_step_X3_size
set_option maxRecDepth 20000 in
theorem ggX3_step_X3_walkerAt : GoodIn wsX3_step wsX3_walkerAt := goodIn_r _ [19, 8, 20, 14, 11, 15, 62, 63, 64, 65, 66] (by decide +kernel) (by decide +kernel)
set_option maxRecDepth 20000 in
theorem gX3_step_X3_walkerAt : GoodIn wsX3_step (wsV RX3 49 RX3 yX3_walkerAt wsX3_walkerAt) := goodIn_app (goodIn_of _ (by decide +kernel)) ggX3_step_X3_walkerAt
set_option maxRecDepth 20000 in
theorem ggX3_step_X1_kind : GoodIn wsX3_step wsX1_kind := goodIn_r _ [25, 26, 27, 14, 11, 15, 67, 68, 69, 70, 71] (by decide +kernel) (by decide +kernel)
set_option maxRecDepth 20000 in
theorem gX3_step_X1_kind : GoodIn wsX3_step (wsV RX3 87 RX1 yX1_kind wsX1_kind) := goodIn_app (goodIn_of _ (by decide +kernel)) ggX3_step_X1_kind
set_option maxRecDepth 20000 in
theorem ggX3_step_X3_isHeard : GoodIn wsX3_step wsX3_isHeard := goodIn_r _ [31, 1, 2, 21, 22, 23, 24, 25, 26, 27, 14, 11, 15, 32, 33, 34, 35, 36, 62, 63, 64, 65, 66, 67, 68, 69, 70, 71] (by decide +kernel) (by decide +kernel)
set_option maxRecDepth 20000 in
theorem gX3_step_X3_isHeard : GoodIn wsX3_step (wsV RX3 90 RX3 yX3_isHeard wsX3_isHeard) := goodIn_app (goodIn_of _ (by decide +kernel)) ggX3_step_X3_isHeard
set_option maxRecDepth 20000 in
theorem ggX3_step_X3_quiet : GoodIn wsX3_step wsX3_quiet := goodIn_r _ [40, 41, 20, 14, 11, 15, 62, 63, 64, 65, 66] (by decide +kernel) (by decide +kernel)
set_option maxRecDepth 20000 in
theorem gX3_step_X3_quiet : GoodIn wsX3_step (wsV RX3 73 RX3 yX3_quiet wsX3_quiet) := goodIn_app (goodIn_of _ (by decide +kernel)) ggX3_step_X3_quiet
set_option maxRecDepth 20000 in
theorem ggX3_step_X3_setQuiet : GoodIn wsX3_step wsX3_setQuiet := goodIn_r _ [45, 41, 46, 47, 11, 48, 62, 63, 64, 65, 66] (by decide +kernel) (by decide +kernel)
set_option maxRecDepth 20000 in
theorem gX3_step_X3_setQuiet : GoodIn wsX3_step (wsV RX3 70 RX3 yX3_setQuiet wsX3_setQuiet) := goodIn_app (goodIn_of _ (by decide +kernel)) ggX3_step_X3_setQuiet
set_option maxRecDepth 20000 in
theorem ggX3_step_X3_turnRound : GoodIn wsX3_step wsX3_turnRound := goodIn_r _ [52, 53, 8, 1, 9, 10, 11, 12, 13, 14, 15, 16, 17, 18, 6, 19, 20, 21, 22, 23, 24, 25, 26, 27, 37, 38, 39, 40, 41, 54, 55, 56, 57, 58, 59, 60, 61, 42, 43, 44, 45, 46, 47, 48, 62, 63, 64, 65, 66, 67, 68, 69, 70, 71] (by decide +kernel) (by decide +kernel)
set_option maxRecDepth 20000 in
theorem gX3_step_X3_turnRound : GoodIn wsX3_step (wsV RX3 94 RX3 yX3_turnRound wsX3_turnRound) := goodIn_app (goodIn_of _ (by decide +kernel)) ggX3_step_X3_turnRound
theorem dX3_step_0 : decode cX3_step 0 = .ok (.aload_n 0, 1) := by decide +kernel
theorem dX3_step_1 : decode cX3_step 1 = .ok (.invokevirtual 47, 3) := by decide +kernel
theorem dX3_step_4 : decode cX3_step 4 = .ok (.iconst 1, 1) := by decide +kernel
theorem dX3_step_5 : decode cX3_step 5 = .ok (.isub, 1) := by decide +kernel
theorem dX3_step_6 : decode cX3_step 6 = .ok (.istore_n 2, 1) := by decide +kernel
theorem dX3_step_7 : decode cX3_step 7 = .ok (.iconst 0, 1) := by decide +kernel
theorem dX3_step_8 : decode cX3_step 8 = .ok (.istore_n 3, 1) := by decide +kernel
theorem dX3_step_9 : decode cX3_step 9 = .ok (.iload_n 3, 1) := by decide +kernel
theorem dX3_step_10 : decode cX3_step 10 = .ok (.iload_n 2, 1) := by decide +kernel
theorem dX3_step_11 : decode cX3_step 11 = .ok (.if_icmp .ge 74, 3) := by decide +kernel
theorem dX3_step_14 : decode cX3_step 14 = .ok (.aload_n 0, 1) := by decide +kernel
theorem dX3_step_15 : decode cX3_step 15 = .ok (.iload_n 3, 1) := by decide +kernel
theorem dX3_step_16 : decode cX3_step 16 = .ok (.invokevirtual 49, 3) := by decide +kernel
theorem dX3_step_19 : decode cX3_step 19 = .ok (.istore 4, 2) := by decide +kernel
theorem dX3_step_21 : decode cX3_step 21 = .ok (.aload_n 0, 1) := by decide +kernel
theorem dX3_step_22 : decode cX3_step 22 = .ok (.getfield 24, 3) := by decide +kernel
theorem dX3_step_25 : decode cX3_step 25 = .ok (.iload 4, 2) := by decide +kernel
theorem dX3_step_27 : decode cX3_step 27 = .ok (.invokevirtual 87, 3) := by decide +kernel
theorem dX3_step_30 : decode cX3_step 30 = .ok (.iconst 1, 1) := by decide +kernel
theorem dX3_step_31 : decode cX3_step 31 = .ok (.if_icmp .eq 22, 3) := by decide +kernel
theorem dX3_step_34 : decode cX3_step 34 = .ok (.aload_n 0, 1) := by decide +kernel
theorem dX3_step_35 : decode cX3_step 35 = .ok (.aload_n 0, 1) := by decide +kernel
theorem dX3_step_36 : decode cX3_step 36 = .ok (.iload_n 3, 1) := by decide +kernel
theorem dX3_step_37 : decode cX3_step 37 = .ok (.iconst 1, 1) := by decide +kernel
theorem dX3_step_38 : decode cX3_step 38 = .ok (.iadd, 1) := by decide +kernel
theorem dX3_step_39 : decode cX3_step 39 = .ok (.invokevirtual 49, 3) := by decide +kernel
theorem dX3_step_42 : decode cX3_step 42 = .ok (.iload_n 1, 1) := by decide +kernel
theorem dX3_step_43 : decode cX3_step 43 = .ok (.invokevirtual 90, 3) := by decide +kernel
theorem dX3_step_46 : decode cX3_step 46 = .ok (.ifCond .eq 7, 3) := by decide +kernel
theorem dX3_step_49 : decode cX3_step 49 = .ok (.iconst 1, 1) := by decide +kernel
theorem dX3_step_50 : decode cX3_step 50 = .ok (.goto 4, 3) := by decide +kernel
theorem dX3_step_53 : decode cX3_step 53 = .ok (.iconst 0, 1) := by decide +kernel
theorem dX3_step_54 : decode cX3_step 54 = .ok (.istore 5, 2) := by decide +kernel
theorem dX3_step_56 : decode cX3_step 56 = .ok (.aload_n 0, 1) := by decide +kernel
theorem dX3_step_57 : decode cX3_step 57 = .ok (.iload 4, 2) := by decide +kernel
theorem dX3_step_59 : decode cX3_step 59 = .ok (.iload 5, 2) := by decide +kernel
theorem dX3_step_61 : decode cX3_step 61 = .ok (.ifCond .eq 7, 3) := by decide +kernel
theorem dX3_step_64 : decode cX3_step 64 = .ok (.iconst 0, 1) := by decide +kernel
theorem dX3_step_65 : decode cX3_step 65 = .ok (.goto 11, 3) := by decide +kernel
theorem dX3_step_68 : decode cX3_step 68 = .ok (.aload_n 0, 1) := by decide +kernel
theorem dX3_step_69 : decode cX3_step 69 = .ok (.iload 4, 2) := by decide +kernel
theorem dX3_step_71 : decode cX3_step 71 = .ok (.invokevirtual 73, 3) := by decide +kernel
theorem dX3_step_74 : decode cX3_step 74 = .ok (.iconst 1, 1) := by decide +kernel
theorem dX3_step_75 : decode cX3_step 75 = .ok (.iadd, 1) := by decide +kernel
theorem dX3_step_76 : decode cX3_step 76 = .ok (.invokevirtual 70, 3) := by decide +kernel
theorem dX3_step_79 : decode cX3_step 79 = .ok (.iinc 3 1, 3) := by decide +kernel
theorem dX3_step_82 : decode cX3_step 82 = .ok (.goto (-73), 3) := by decide +kernel
theorem dX3_step_85 : decode cX3_step 85 = .ok (.aload_n 0, 1) := by decide +kernel
theorem dX3_step_86 : decode cX3_step 86 = .ok (.invokevirtual 94, 3) := by decide +kernel
theorem dX3_step_89 : decode cX3_step 89 = .ok (.istore_n 3, 1) := by decide +kernel
theorem dX3_step_90 : decode cX3_step 90 = .ok (.aload_n 0, 1) := by decide +kernel
theorem dX3_step_91 : decode cX3_step 91 = .ok (.dup, 1) := by decide +kernel
theorem dX3_step_92 : decode cX3_step 92 = .ok (.getfield 18, 3) := by decide +kernel
theorem dX3_step_95 : decode cX3_step 95 = .ok (.iconst 1, 1) := by decide +kernel
theorem dX3_step_96 : decode cX3_step 96 = .ok (.iadd, 1) := by decide +kernel
theorem dX3_step_97 : decode cX3_step 97 = .ok (.putfield 18, 3) := by decide +kernel
theorem dX3_step_100 : decode cX3_step 100 = .ok (.iload_n 3, 1) := by decide +kernel
theorem dX3_step_101 : decode cX3_step 101 = .ok (.ireturn, 1) := by decide +kernel
set_option maxRecDepth 20000 in
theorem ggX3_isHeard_X1_kind : GoodIn wsX3_isHeard wsX1_kind := goodIn_r _ [7, 8, 9, 10, 11, 12, 23, 24, 25, 26, 27] (by decide +kernel) (by decide +kernel)
set_option maxRecDepth 20000 in
theorem gX3_isHeard_X1_kind : GoodIn wsX3_isHeard (wsV RX3 87 RX1 yX1_kind wsX1_kind) := goodIn_app (goodIn_of _ (by decide +kernel)) ggX3_isHeard_X1_kind
set_option maxRecDepth 20000 in
theorem ggX3_isHeard_X1_water : GoodIn wsX3_isHeard wsX1_water := goodIn_r _ [16, 17, 23, 24, 25, 26, 27] (by decide +kernel) (by decide +kernel)
set_option maxRecDepth 20000 in
theorem gX3_isHeard_X1_water : GoodIn wsX3_isHeard (wsV RX3 97 RX1 yX1_water wsX1_water) := goodIn_app (goodIn_of _ (by decide +kernel)) ggX3_isHeard_X1_water
theorem dX3_isHeard_0 : decode cX3_isHeard 0 = .ok (.aload_n 0, 1) := by decide +kernel
theorem dX3_isHeard_1 : decode cX3_isHeard 1 = .ok (.getfield 24, 3) := by decide +kernel
theorem dX3_isHeard_4 : decode cX3_isHeard 4 = .ok (.iload_n 1, 1) := by decide +kernel
theorem dX3_isHeard_5 : decode cX3_isHeard 5 = .ok (.invokevirtual 87, 3) := by decide +kernel
theorem dX3_isHeard_8 : decode cX3_isHeard 8 = .ok (.istore_n 3, 1) := by decide +kernel
theorem dX3_isHeard_9 : decode cX3_isHeard 9 = .ok (.iload_n 2, 1) := by decide +kernel
theorem dX3_isHeard_10 : decode cX3_isHeard 10 = .ok (.iload_n 1, 1) := by decide +kernel
theorem dX3_isHeard_11 : decode cX3_isHeard 11 = .ok (.ishr, 1) := by decide +kernel
theorem dX3_isHeard_12 : decode cX3_isHeard 12 = .ok (.iconst 1, 1) := by decide +kernel
theorem dX3_isHeard_13 : decode cX3_isHeard 13 = .ok (.iand, 1) := by decide +kernel
theorem dX3_isHeard_14 : decode cX3_isHeard 14 = .ok (.iconst 1, 1) := by decide +kernel
theorem dX3_isHeard_15 : decode cX3_isHeard 15 = .ok (.if_icmp .ne 7, 3) := by decide +kernel
theorem dX3_isHeard_18 : decode cX3_isHeard 18 = .ok (.iconst 1, 1) := by decide +kernel
theorem dX3_isHeard_19 : decode cX3_isHeard 19 = .ok (.goto 4, 3) := by decide +kernel
theorem dX3_isHeard_22 : decode cX3_isHeard 22 = .ok (.iconst 0, 1) := by decide +kernel
theorem dX3_isHeard_23 : decode cX3_isHeard 23 = .ok (.istore 4, 2) := by decide +kernel
theorem dX3_isHeard_25 : decode cX3_isHeard 25 = .ok (.iload_n 3, 1) := by decide +kernel
theorem dX3_isHeard_26 : decode cX3_isHeard 26 = .ok (.iconst 3, 1) := by decide +kernel
theorem dX3_isHeard_27 : decode cX3_isHeard 27 = .ok (.if_icmp .ne 16, 3) := by decide +kernel
theorem dX3_isHeard_30 : decode cX3_isHeard 30 = .ok (.aload_n 0, 1) := by decide +kernel
theorem dX3_isHeard_31 : decode cX3_isHeard 31 = .ok (.getfield 18, 3) := by decide +kernel
theorem dX3_isHeard_34 : decode cX3_isHeard 34 = .ok (.iconst 2, 1) := by decide +kernel
theorem dX3_isHeard_35 : decode cX3_isHeard 35 = .ok (.irem, 1) := by decide +kernel
theorem dX3_isHeard_36 : decode cX3_isHeard 36 = .ok (.ifCond .eq 7, 3) := by decide +kernel
theorem dX3_isHeard_39 : decode cX3_isHeard 39 = .ok (.iconst 1, 1) := by decide +kernel
theorem dX3_isHeard_40 : decode cX3_isHeard 40 = .ok (.goto 4, 3) := by decide +kernel
theorem dX3_isHeard_43 : decode cX3_isHeard 43 = .ok (.iconst 0, 1) := by decide +kernel
theorem dX3_isHeard_44 : decode cX3_isHeard 44 = .ok (.istore 5, 2) := by decide +kernel
theorem dX3_isHeard_46 : decode cX3_isHeard 46 = .ok (.aload_n 0, 1) := by decide +kernel
theorem dX3_isHeard_47 : decode cX3_isHeard 47 = .ok (.getfield 18, 3) := by decide +kernel
theorem dX3_isHeard_50 : decode cX3_isHeard 50 = .ok (.aload_n 0, 1) := by decide +kernel
theorem dX3_isHeard_51 : decode cX3_isHeard 51 = .ok (.getfield 24, 3) := by decide +kernel
theorem dX3_isHeard_54 : decode cX3_isHeard 54 = .ok (.invokevirtual 97, 3) := by decide +kernel
theorem dX3_isHeard_57 : decode cX3_isHeard 57 = .ok (.if_icmp .eq 18, 3) := by decide +kernel
theorem dX3_isHeard_60 : decode cX3_isHeard 60 = .ok (.iload_n 3, 1) := by decide +kernel
theorem dX3_isHeard_61 : decode cX3_isHeard 61 = .ok (.iconst 2, 1) := by decide +kernel
theorem dX3_isHeard_62 : decode cX3_isHeard 62 = .ok (.if_icmp .eq 13, 3) := by decide +kernel
theorem dX3_isHeard_65 : decode cX3_isHeard 65 = .ok (.iload 4, 2) := by decide +kernel
theorem dX3_isHeard_67 : decode cX3_isHeard 67 = .ok (.ifCond .eq 12, 3) := by decide +kernel
theorem dX3_isHeard_70 : decode cX3_isHeard 70 = .ok (.iload 5, 2) := by decide +kernel
theorem dX3_isHeard_72 : decode cX3_isHeard 72 = .ok (.ifCond .ne 7, 3) := by decide +kernel
theorem dX3_isHeard_75 : decode cX3_isHeard 75 = .ok (.iconst 1, 1) := by decide +kernel
theorem dX3_isHeard_76 : decode cX3_isHeard 76 = .ok (.goto 4, 3) := by decide +kernel
theorem dX3_isHeard_79 : decode cX3_isHeard 79 = .ok (.iconst 0, 1) := by decide +kernel
theorem dX3_isHeard_80 : decode cX3_isHeard 80 = .ok (.ireturn, 1) := by decide +kernel
set_option maxRecDepth 20000 in
theorem ggX3_turnRound_X0_size : GoodIn wsX3_turnRound wsX0_size := goodIn_r _ [7, 8, 9, 6, 10] (by decide +kernel) (by decide +kernel)
set_option maxRecDepth 20000 in
theorem gX3_turnRound_X0_size : GoodIn wsX3_turnRound (va_wsS RX3 28 yX0_size wsX0_size) := goodIn_app (goodIn_of _ (by decide +kernel)) ggX3_turnRound_X0_size
set_option maxRecDepth 20000 in
theorem ggX3_turnRound_X3_walkerAt : GoodIn wsX3_turnRound wsX3_walkerAt := goodIn_r _ [15, 2, 16, 9, 6, 10, 44, 45, 46, 47, 48] (by decide +kernel) (by decide +kernel)
set_option maxRecDepth 20000 in
theorem gX3_turnRound_X3_walkerAt : GoodIn wsX3_turnRound (wsV RX3 49 RX3 yX3_walkerAt wsX3_walkerAt) := goodIn_app (goodIn_of _ (by decide +kernel)) ggX3_turnRound_X3_walkerAt
set_option maxRecDepth 20000 in
theorem ggX3_turnRound_X1_kind : GoodIn wsX3_turnRound wsX1_kind := goodIn_r _ [21, 22, 23, 9, 6, 10, 49, 50, 51, 52, 53] (by decide +kernel) (by decide +kernel)
set_option maxRecDepth 20000 in
theorem gX3_turnRound_X1_kind : GoodIn wsX3_turnRound (wsV RX3 87 RX1 yX1_kind wsX1_kind) := goodIn_app (goodIn_of _ (by decide +kernel)) ggX3_turnRound_X1_kind
set_option maxRecDepth 20000 in
theorem ggX3_turnRound_X3_quiet : GoodIn wsX3_turnRound wsX3_quiet := goodIn_r _ [27, 28, 16, 9, 6, 10, 44, 45, 46, 47, 48] (by decide +kernel) (by decide +kernel)
set_option maxRecDepth 20000 in
theorem gX3_turnRound_X3_quiet : GoodIn wsX3_turnRound (wsV RX3 73 RX3 yX3_quiet wsX3_quiet) := goodIn_app (goodIn_of _ (by decide +kernel)) ggX3_turnRound_X3_quiet
set_option maxRecDepth 20000 in
theorem ggX3_turnRound_X1_nerve : GoodIn wsX3_turnRound wsX1_nerve := goodIn_r _ [32, 33, 23, 9, 6, 10, 49, 50, 51, 52, 53] (by decide +kernel) (by decide +kernel)
set_option maxRecDepth 20000 in
theorem gX3_turnRound_X1_nerve : GoodIn wsX3_turnRound (wsV RX3 100 RX1 yX1_nerve wsX1_nerve) := goodIn_app (goodIn_of _ (by decide +kernel)) ggX3_turnRound_X1_nerve
set_option maxRecDepth 20000 in
theorem ggX3_turnRound_X0_without : GoodIn wsX3_turnRound wsX0_without := goodIn_r _ [36] (by decide +kernel) (by decide +kernel)
set_option maxRecDepth 20000 in
theorem gX3_turnRound_X0_without : GoodIn wsX3_turnRound (va_wsS RX3 103 yX0_without wsX0_without) := goodIn_app (goodIn_of _ (by decide +kernel)) ggX3_turnRound_X0_without
set_option maxRecDepth 20000 in
theorem ggX3_turnRound_X3_setQuiet : GoodIn wsX3_turnRound wsX3_setQuiet := goodIn_r _ [40, 28, 41, 42, 6, 43, 44, 45, 46, 47, 48] (by decide +kernel) (by decide +kernel)
set_option maxRecDepth 20000 in
theorem gX3_turnRound_X3_setQuiet : GoodIn wsX3_turnRound (wsV RX3 70 RX3 yX3_setQuiet wsX3_setQuiet) := goodIn_app (goodIn_of _ (by decide +kernel)) ggX3_turnRound_X3_setQuiet
theorem dX3_turnRound_0 : decode cX3_turnRound 0 = .ok (.aload_n 0, 1) := by decide +kernel
theorem dX3_turnRound_1 : decode cX3_turnRound 1 = .ok (.iconst 0, 1) := by decide +kernel
theorem dX3_turnRound_2 : decode cX3_turnRound 2 = .ok (.putfield 21, 3) := by decide +kernel
theorem dX3_turnRound_5 : decode cX3_turnRound 5 = .ok (.iconst 0, 1) := by decide +kernel
theorem dX3_turnRound_6 : decode cX3_turnRound 6 = .ok (.istore_n 1, 1) := by decide +kernel
theorem dX3_turnRound_7 : decode cX3_turnRound 7 = .ok (.iconst 0, 1) := by decide +kernel
theorem dX3_turnRound_8 : decode cX3_turnRound 8 = .ok (.istore_n 2, 1) := by decide +kernel
theorem dX3_turnRound_9 : decode cX3_turnRound 9 = .ok (.iload_n 2, 1) := by decide +kernel
theorem dX3_turnRound_10 : decode cX3_turnRound 10 = .ok (.iconst 1, 1) := by decide +kernel
theorem dX3_turnRound_11 : decode cX3_turnRound 11 = .ok (.iadd, 1) := by decide +kernel
theorem dX3_turnRound_12 : decode cX3_turnRound 12 = .ok (.aload_n 0, 1) := by decide +kernel
theorem dX3_turnRound_13 : decode cX3_turnRound 13 = .ok (.getfield 11, 3) := by decide +kernel
theorem dX3_turnRound_16 : decode cX3_turnRound 16 = .ok (.invokestatic 28, 3) := by decide +kernel
theorem dX3_turnRound_19 : decode cX3_turnRound 19 = .ok (.if_icmp .ge 87, 3) := by decide +kernel
theorem dX3_turnRound_22 : decode cX3_turnRound 22 = .ok (.aload_n 0, 1) := by decide +kernel
theorem dX3_turnRound_23 : decode cX3_turnRound 23 = .ok (.iload_n 2, 1) := by decide +kernel
theorem dX3_turnRound_24 : decode cX3_turnRound 24 = .ok (.invokevirtual 49, 3) := by decide +kernel
theorem dX3_turnRound_27 : decode cX3_turnRound 27 = .ok (.istore_n 3, 1) := by decide +kernel
theorem dX3_turnRound_28 : decode cX3_turnRound 28 = .ok (.aload_n 0, 1) := by decide +kernel
theorem dX3_turnRound_29 : decode cX3_turnRound 29 = .ok (.getfield 24, 3) := by decide +kernel
theorem dX3_turnRound_32 : decode cX3_turnRound 32 = .ok (.iload_n 3, 1) := by decide +kernel
theorem dX3_turnRound_33 : decode cX3_turnRound 33 = .ok (.invokevirtual 87, 3) := by decide +kernel
theorem dX3_turnRound_36 : decode cX3_turnRound 36 = .ok (.iconst 1, 1) := by decide +kernel
theorem dX3_turnRound_37 : decode cX3_turnRound 37 = .ok (.if_icmp .eq 63, 3) := by decide +kernel
theorem dX3_turnRound_40 : decode cX3_turnRound 40 = .ok (.aload_n 0, 1) := by decide +kernel
theorem dX3_turnRound_41 : decode cX3_turnRound 41 = .ok (.iload_n 3, 1) := by decide +kernel
theorem dX3_turnRound_42 : decode cX3_turnRound 42 = .ok (.invokevirtual 73, 3) := by decide +kernel
theorem dX3_turnRound_45 : decode cX3_turnRound 45 = .ok (.aload_n 0, 1) := by decide +kernel
theorem dX3_turnRound_46 : decode cX3_turnRound 46 = .ok (.getfield 24, 3) := by decide +kernel
theorem dX3_turnRound_49 : decode cX3_turnRound 49 = .ok (.iload_n 3, 1) := by decide +kernel
theorem dX3_turnRound_50 : decode cX3_turnRound 50 = .ok (.invokevirtual 100, 3) := by decide +kernel
theorem dX3_turnRound_53 : decode cX3_turnRound 53 = .ok (.if_icmp .le 47, 3) := by decide +kernel
theorem dX3_turnRound_56 : decode cX3_turnRound 56 = .ok (.aload_n 0, 1) := by decide +kernel
theorem dX3_turnRound_57 : decode cX3_turnRound 57 = .ok (.dup, 1) := by decide +kernel
theorem dX3_turnRound_58 : decode cX3_turnRound 58 = .ok (.getfield 21, 3) := by decide +kernel
theorem dX3_turnRound_61 : decode cX3_turnRound 61 = .ok (.iconst 1, 1) := by decide +kernel
theorem dX3_turnRound_62 : decode cX3_turnRound 62 = .ok (.iload_n 3, 1) := by decide +kernel
theorem dX3_turnRound_63 : decode cX3_turnRound 63 = .ok (.ishl, 1) := by decide +kernel
theorem dX3_turnRound_64 : decode cX3_turnRound 64 = .ok (.ior, 1) := by decide +kernel
theorem dX3_turnRound_65 : decode cX3_turnRound 65 = .ok (.putfield 21, 3) := by decide +kernel
theorem dX3_turnRound_68 : decode cX3_turnRound 68 = .ok (.iload_n 1, 1) := by decide +kernel
theorem dX3_turnRound_69 : decode cX3_turnRound 69 = .ok (.iconst 1, 1) := by decide +kernel
theorem dX3_turnRound_70 : decode cX3_turnRound 70 = .ok (.aload_n 0, 1) := by decide +kernel
theorem dX3_turnRound_71 : decode cX3_turnRound 71 = .ok (.iload_n 2, 1) := by decide +kernel
theorem dX3_turnRound_72 : decode cX3_turnRound 72 = .ok (.iconst 1, 1) := by decide +kernel
theorem dX3_turnRound_73 : decode cX3_turnRound 73 = .ok (.iadd, 1) := by decide +kernel
theorem dX3_turnRound_74 : decode cX3_turnRound 74 = .ok (.invokevirtual 49, 3) := by decide +kernel
theorem dX3_turnRound_77 : decode cX3_turnRound 77 = .ok (.ishl, 1) := by decide +kernel
theorem dX3_turnRound_78 : decode cX3_turnRound 78 = .ok (.ior, 1) := by decide +kernel
theorem dX3_turnRound_79 : decode cX3_turnRound 79 = .ok (.istore_n 1, 1) := by decide +kernel
theorem dX3_turnRound_80 : decode cX3_turnRound 80 = .ok (.aload_n 0, 1) := by decide +kernel
theorem dX3_turnRound_81 : decode cX3_turnRound 81 = .ok (.aload_n 0, 1) := by decide +kernel
theorem dX3_turnRound_82 : decode cX3_turnRound 82 = .ok (.getfield 11, 3) := by decide +kernel
theorem dX3_turnRound_85 : decode cX3_turnRound 85 = .ok (.iload_n 2, 1) := by decide +kernel
theorem dX3_turnRound_86 : decode cX3_turnRound 86 = .ok (.iconst 1, 1) := by decide +kernel
theorem dX3_turnRound_87 : decode cX3_turnRound 87 = .ok (.iadd, 1) := by decide +kernel
theorem dX3_turnRound_88 : decode cX3_turnRound 88 = .ok (.invokestatic 103, 3) := by decide +kernel
theorem dX3_turnRound_91 : decode cX3_turnRound 91 = .ok (.putfield 11, 3) := by decide +kernel
theorem dX3_turnRound_94 : decode cX3_turnRound 94 = .ok (.aload_n 0, 1) := by decide +kernel
theorem dX3_turnRound_95 : decode cX3_turnRound 95 = .ok (.iload_n 3, 1) := by decide +kernel
theorem dX3_turnRound_96 : decode cX3_turnRound 96 = .ok (.iconst 0, 1) := by decide +kernel
theorem dX3_turnRound_97 : decode cX3_turnRound 97 = .ok (.invokevirtual 70, 3) := by decide +kernel
theorem dX3_turnRound_100 : decode cX3_turnRound 100 = .ok (.iinc 2 1, 3) := by decide +kernel
theorem dX3_turnRound_103 : decode cX3_turnRound 103 = .ok (.goto (-94), 3) := by decide +kernel
theorem dX3_turnRound_106 : decode cX3_turnRound 106 = .ok (.iload_n 1, 1) := by decide +kernel
theorem dX3_turnRound_107 : decode cX3_turnRound 107 = .ok (.ireturn, 1) := by decide +kernel
set_option maxRecDepth 20000 in
theorem ggX3_walkerAt_X0_at : GoodIn wsX3_walkerAt wsX0_at := goodIn_r _ [5] (by decide +kernel) (by decide +kernel)
set_option maxRecDepth 20000 in
theorem gX3_walkerAt_X0_at : GoodIn wsX3_walkerAt (va_wsS RX3 43 yX0_at wsX0_at) := goodIn_app (goodIn_of _ (by decide +kernel)) ggX3_walkerAt_X0_at
theorem dX3_walkerAt_0 : decode cX3_walkerAt 0 = .ok (.aload_n 0, 1) := by decide +kernel
theorem dX3_walkerAt_1 : decode cX3_walkerAt 1 = .ok (.getfield 11, 3) := by decide +kernel
theorem dX3_walkerAt_4 : decode cX3_walkerAt 4 = .ok (.iload_n 1, 1) := by decide +kernel
theorem dX3_walkerAt_5 : decode cX3_walkerAt 5 = .ok (.invokestatic 43, 3) := by decide +kernel
theorem dX3_walkerAt_8 : decode cX3_walkerAt 8 = .ok (.iconst 1, 1) := by decide +kernel
theorem dX3_walkerAt_9 : decode cX3_walkerAt 9 = .ok (.isub, 1) := by decide +kernel
theorem dX3_walkerAt_10 : decode cX3_walkerAt 10 = .ok (.ireturn, 1) := by decide +kernel
set_option maxRecDepth 20000 in
theorem ggX3_setQuiet_X0_with : GoodIn wsX3_setQuiet wsX0_with := goodIn_r _ [5] (by decide +kernel) (by decide +kernel)
set_option maxRecDepth 20000 in
theorem gX3_setQuiet_X0_with : GoodIn wsX3_setQuiet (va_wsS RX3 106 yX0_with wsX0_with) := goodIn_app (goodIn_of _ (by decide +kernel)) ggX3_setQuiet_X0_with
theorem dX3_setQuiet_0 : decode cX3_setQuiet 0 = .ok (.aload_n 0, 1) := by decide +kernel
theorem dX3_setQuiet_1 : decode cX3_setQuiet 1 = .ok (.aload_n 0, 1) := by decide +kernel
theorem dX3_setQuiet_2 : decode cX3_setQuiet 2 = .ok (.getfield 15, 3) := by decide +kernel
theorem dX3_setQuiet_5 : decode cX3_setQuiet 5 = .ok (.iload_n 1, 1) := by decide +kernel
theorem dX3_setQuiet_6 : decode cX3_setQuiet 6 = .ok (.iload_n 2, 1) := by decide +kernel
theorem dX3_setQuiet_7 : decode cX3_setQuiet 7 = .ok (.invokestatic 106, 3) := by decide +kernel
theorem dX3_setQuiet_10 : decode cX3_setQuiet 10 = .ok (.putfield 15, 3) := by decide +kernel
theorem dX3_setQuiet_13 : decode cX3_setQuiet 13 = .ok (.return_, 1) := by decide +kernel
theorem dX3_treadsOf_0 : decode cX3_treadsOf 0 = .ok (.lload_n 0, 1) := by decide +kernel
theorem dX3_treadsOf_1 : decode cX3_treadsOf 1 = .ok (.lstore_n 3, 1) := by decide +kernel
theorem dX3_treadsOf_2 : decode cX3_treadsOf 2 = .ok (.iconst 0, 1) := by decide +kernel
theorem dX3_treadsOf_3 : decode cX3_treadsOf 3 = .ok (.istore 5, 2) := by decide +kernel
theorem dX3_treadsOf_5 : decode cX3_treadsOf 5 = .ok (.iload 5, 2) := by decide +kernel
theorem dX3_treadsOf_7 : decode cX3_treadsOf 7 = .ok (.iload_n 2, 1) := by decide +kernel
theorem dX3_treadsOf_8 : decode cX3_treadsOf 8 = .ok (.if_icmp .ge 15, 3) := by decide +kernel
theorem dX3_treadsOf_11 : decode cX3_treadsOf 11 = .ok (.lload_n 3, 1) := by decide +kernel
theorem dX3_treadsOf_12 : decode cX3_treadsOf 12 = .ok (.ldc2_w 109, 3) := by decide +kernel
theorem dX3_treadsOf_15 : decode cX3_treadsOf 15 = .ok (.ldiv, 1) := by decide +kernel
theorem dX3_treadsOf_16 : decode cX3_treadsOf 16 = .ok (.lstore_n 3, 1) := by decide +kernel
theorem dX3_treadsOf_17 : decode cX3_treadsOf 17 = .ok (.iinc 5 1, 3) := by decide +kernel
theorem dX3_treadsOf_20 : decode cX3_treadsOf 20 = .ok (.goto (-15), 3) := by decide +kernel
theorem dX3_treadsOf_23 : decode cX3_treadsOf 23 = .ok (.lload_n 3, 1) := by decide +kernel
theorem dX3_treadsOf_24 : decode cX3_treadsOf 24 = .ok (.ldc2_w 109, 3) := by decide +kernel
theorem dX3_treadsOf_27 : decode cX3_treadsOf 27 = .ok (.lrem, 1) := by decide +kernel
theorem dX3_treadsOf_28 : decode cX3_treadsOf 28 = .ok (.l2i, 1) := by decide +kernel
theorem dX3_treadsOf_29 : decode cX3_treadsOf 29 = .ok (.ireturn, 1) := by decide +kernel
