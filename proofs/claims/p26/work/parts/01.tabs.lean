-- ===== PART A: goes FIRST, ahead of the names: the tables' words, and 'selects' of the private methods out of them =====
/-- a private method of a class that the tables say can be made, by its rows of tables_1 -/
def lw_okq (q : MethodName × Nat) : Prop := (q.1.cls ≠ "java/lang/invoke/MethodHandle" ∧ q.1.cls ≠ "java/lang/invoke/VarHandle") ∧ Cond.instantiable q.1.cls q.2 ∈ tables_1 ∧ Cond.privateMethod q.1 ∈ tables_1 ∧ Cond.instanceMethod q.1 ∈ tables_1
theorem lw_p0 : lw_okq (⟨"SheepChess", "begin", "()Z"⟩, 9) := ⟨⟨by decide +kernel, by decide +kernel⟩, List.mem_of_getElem? (i := 16) (by decide +kernel), List.mem_of_getElem? (i := 292) (by decide +kernel), List.mem_of_getElem? (i := 293) (by decide +kernel)⟩
theorem lw_p1 : lw_okq (⟨"SheepChess$Sheet", "readItem", "()Z"⟩, 5) := ⟨⟨by decide +kernel, by decide +kernel⟩, List.mem_of_getElem? (i := 81) (by decide +kernel), List.mem_of_getElem? (i := 304) (by decide +kernel), List.mem_of_getElem? (i := 305) (by decide +kernel)⟩
theorem lw_p2 : lw_okq (⟨"SheepChess$Sheet", "letterAtHead", "()I"⟩, 5) := ⟨⟨by decide +kernel, by decide +kernel⟩, List.mem_of_getElem? (i := 81) (by decide +kernel), List.mem_of_getElem? (i := 308) (by decide +kernel), List.mem_of_getElem? (i := 309) (by decide +kernel)⟩
theorem lw_p3 : lw_okq (⟨"SheepChess$Sheet", "readRow", "()Z"⟩, 5) := ⟨⟨by decide +kernel, by decide +kernel⟩, List.mem_of_getElem? (i := 81) (by decide +kernel), List.mem_of_getElem? (i := 312) (by decide +kernel), List.mem_of_getElem? (i := 313) (by decide +kernel)⟩
theorem lw_p4 : lw_okq (⟨"SheepChess$Sheet", "readFigure", "()I"⟩, 5) := ⟨⟨by decide +kernel, by decide +kernel⟩, List.mem_of_getElem? (i := 81) (by decide +kernel), List.mem_of_getElem? (i := 316) (by decide +kernel), List.mem_of_getElem? (i := 317) (by decide +kernel)⟩
theorem lw_p5 : lw_okq (⟨"SheepChess$Sheet", "passes", "(I)Z"⟩, 5) := ⟨⟨by decide +kernel, by decide +kernel⟩, List.mem_of_getElem? (i := 81) (by decide +kernel), List.mem_of_getElem? (i := 320) (by decide +kernel), List.mem_of_getElem? (i := 321) (by decide +kernel)⟩
theorem lw_p6 : lw_okq (⟨"SheepChess$Sheet", "readBeast", "()Z"⟩, 5) := ⟨⟨by decide +kernel, by decide +kernel⟩, List.mem_of_getElem? (i := 81) (by decide +kernel), List.mem_of_getElem? (i := 324) (by decide +kernel), List.mem_of_getElem? (i := 325) (by decide +kernel)⟩
theorem lw_p7 : lw_okq (⟨"SheepChess$Sheet", "readNumber", "()I"⟩, 5) := ⟨⟨by decide +kernel, by decide +kernel⟩, List.mem_of_getElem? (i := 81) (by decide +kernel), List.mem_of_getElem? (i := 328) (by decide +kernel), List.mem_of_getElem? (i := 329) (by decide +kernel)⟩
theorem lw_p8 : lw_okq (⟨"SheepChess$Sheet", "readWell", "()Z"⟩, 5) := ⟨⟨by decide +kernel, by decide +kernel⟩, List.mem_of_getElem? (i := 81) (by decide +kernel), List.mem_of_getElem? (i := 351) (by decide +kernel), List.mem_of_getElem? (i := 352) (by decide +kernel)⟩
theorem lw_p9 : lw_okq (⟨"SheepChess$Sheet", "readHunger", "()Z"⟩, 5) := ⟨⟨by decide +kernel, by decide +kernel⟩, List.mem_of_getElem? (i := 81) (by decide +kernel), List.mem_of_getElem? (i := 355) (by decide +kernel), List.mem_of_getElem? (i := 356) (by decide +kernel)⟩
theorem lw_p10 : lw_okq (⟨"SheepChess$Sheet", "readSnow", "()Z"⟩, 5) := ⟨⟨by decide +kernel, by decide +kernel⟩, List.mem_of_getElem? (i := 81) (by decide +kernel), List.mem_of_getElem? (i := 359) (by decide +kernel), List.mem_of_getElem? (i := 360) (by decide +kernel)⟩
theorem lw_p11 : lw_okq (⟨"SheepChess$Meadow", "isOpen", "(IIZ)Z"⟩, 6) := ⟨⟨by decide +kernel, by decide +kernel⟩, List.mem_of_getElem? (i := 89) (by decide +kernel), List.mem_of_getElem? (i := 452) (by decide +kernel), List.mem_of_getElem? (i := 453) (by decide +kernel)⟩
theorem lw_p12 : lw_okq (⟨"SheepChess$Meadow", "ramBeside", "(II)Z"⟩, 6) := ⟨⟨by decide +kernel, by decide +kernel⟩, List.mem_of_getElem? (i := 89) (by decide +kernel), List.mem_of_getElem? (i := 458) (by decide +kernel), List.mem_of_getElem? (i := 459) (by decide +kernel)⟩
theorem lw_p13 : lw_okq (⟨"SheepChess$Past", "slot", "(I)I"⟩, 5) := ⟨⟨by decide +kernel, by decide +kernel⟩, List.mem_of_getElem? (i := 139) (by decide +kernel), List.mem_of_getElem? (i := 473) (by decide +kernel), List.mem_of_getElem? (i := 474) (by decide +kernel)⟩
theorem lw_p14 : lw_okq (⟨"SheepChess$Walk", "add", "(IIII)V"⟩, 8) := ⟨⟨by decide +kernel, by decide +kernel⟩, List.mem_of_getElem? (i := 180) (by decide +kernel), List.mem_of_getElem? (i := 640) (by decide +kernel), List.mem_of_getElem? (i := 641) (by decide +kernel)⟩
theorem lw_p15 : lw_okq (⟨"SheepChess$Ahead", "comesToWell", "(IIII)Z"⟩, 5) := ⟨⟨by decide +kernel, by decide +kernel⟩, List.mem_of_getElem? (i := 214) (by decide +kernel), List.mem_of_getElem? (i := 685) (by decide +kernel), List.mem_of_getElem? (i := 686) (by decide +kernel)⟩
def lw_privs_1 : List (MethodName × Nat) := [(⟨"SheepChess", "begin", "()Z"⟩, 9), (⟨"SheepChess$Sheet", "readItem", "()Z"⟩, 5), (⟨"SheepChess$Sheet", "letterAtHead", "()I"⟩, 5), (⟨"SheepChess$Sheet", "readRow", "()Z"⟩, 5), (⟨"SheepChess$Sheet", "readFigure", "()I"⟩, 5), (⟨"SheepChess$Sheet", "passes", "(I)Z"⟩, 5), (⟨"SheepChess$Sheet", "readBeast", "()Z"⟩, 5), (⟨"SheepChess$Sheet", "readNumber", "()I"⟩, 5), (⟨"SheepChess$Sheet", "readWell", "()Z"⟩, 5), (⟨"SheepChess$Sheet", "readHunger", "()Z"⟩, 5), (⟨"SheepChess$Sheet", "readSnow", "()Z"⟩, 5), (⟨"SheepChess$Meadow", "isOpen", "(IIZ)Z"⟩, 6), (⟨"SheepChess$Meadow", "ramBeside", "(II)Z"⟩, 6), (⟨"SheepChess$Past", "slot", "(I)I"⟩, 5), (⟨"SheepChess$Walk", "add", "(IIII)V"⟩, 8), (⟨"SheepChess$Ahead", "comesToWell", "(IIII)Z"⟩, 5)]
theorem lw_r1 : ∀ q ∈ lw_privs_1, lw_okq q := List.forall_mem_cons.mpr ⟨lw_p0, List.forall_mem_cons.mpr ⟨lw_p1, List.forall_mem_cons.mpr ⟨lw_p2, List.forall_mem_cons.mpr ⟨lw_p3, List.forall_mem_cons.mpr ⟨lw_p4, List.forall_mem_cons.mpr ⟨lw_p5, List.forall_mem_cons.mpr ⟨lw_p6, List.forall_mem_cons.mpr ⟨lw_p7, List.forall_mem_cons.mpr ⟨lw_p8, List.forall_mem_cons.mpr ⟨lw_p9, List.forall_mem_cons.mpr ⟨lw_p10, List.forall_mem_cons.mpr ⟨lw_p11, List.forall_mem_cons.mpr ⟨lw_p12, List.forall_mem_cons.mpr ⟨lw_p13, List.forall_mem_cons.mpr ⟨lw_p14, List.forall_mem_cons.mpr ⟨lw_p15, fun _ h => absurd h List.not_mem_nil⟩⟩⟩⟩⟩⟩⟩⟩⟩⟩⟩⟩⟩⟩⟩⟩
theorem lw_p16 : lw_okq (⟨"SheepChess$Ahead", "pass", "(III)LSheepChess$Meadow;"⟩, 5) := ⟨⟨by decide +kernel, by decide +kernel⟩, List.mem_of_getElem? (i := 214) (by decide +kernel), List.mem_of_getElem? (i := 696) (by decide +kernel), List.mem_of_getElem? (i := 697) (by decide +kernel)⟩
theorem lw_p17 : lw_okq (⟨"SheepChess$Ahead", "note", "(II)V"⟩, 5) := ⟨⟨by decide +kernel, by decide +kernel⟩, List.mem_of_getElem? (i := 214) (by decide +kernel), List.mem_of_getElem? (i := 704) (by decide +kernel), List.mem_of_getElem? (i := 705) (by decide +kernel)⟩
theorem lw_p18 : lw_okq (⟨"SheepChess$Ahead", "worthFrom", "(II)I"⟩, 5) := ⟨⟨by decide +kernel, by decide +kernel⟩, List.mem_of_getElem? (i := 214) (by decide +kernel), List.mem_of_getElem? (i := 723) (by decide +kernel), List.mem_of_getElem? (i := 724) (by decide +kernel)⟩
theorem lw_p19 : lw_okq (⟨"SheepChess$Ahead", "stayingFrom", "(IIII)J"⟩, 5) := ⟨⟨by decide +kernel, by decide +kernel⟩, List.mem_of_getElem? (i := 214) (by decide +kernel), List.mem_of_getElem? (i := 757) (by decide +kernel), List.mem_of_getElem? (i := 758) (by decide +kernel)⟩
theorem lw_p20 : lw_okq (⟨"SheepChess$Meadow", "bogBeside", "(I)Z"⟩, 6) := ⟨⟨by decide +kernel, by decide +kernel⟩, List.mem_of_getElem? (i := 89) (by decide +kernel), List.mem_of_getElem? (i := 767) (by decide +kernel), List.mem_of_getElem? (i := 768) (by decide +kernel)⟩
def lw_privs_2 : List (MethodName × Nat) := [(⟨"SheepChess$Ahead", "pass", "(III)LSheepChess$Meadow;"⟩, 5), (⟨"SheepChess$Ahead", "note", "(II)V"⟩, 5), (⟨"SheepChess$Ahead", "worthFrom", "(II)I"⟩, 5), (⟨"SheepChess$Ahead", "stayingFrom", "(IIII)J"⟩, 5), (⟨"SheepChess$Meadow", "bogBeside", "(I)Z"⟩, 6)]
theorem lw_r2 : ∀ q ∈ lw_privs_2, lw_okq q := List.forall_mem_cons.mpr ⟨lw_p16, List.forall_mem_cons.mpr ⟨lw_p17, List.forall_mem_cons.mpr ⟨lw_p18, List.forall_mem_cons.mpr ⟨lw_p19, List.forall_mem_cons.mpr ⟨lw_p20, fun _ h => absurd h List.not_mem_nil⟩⟩⟩⟩⟩
def lw_privs : List (MethodName × Nat) := lw_privs_1 ++ (lw_privs_2)
def lw_tbl : List Cond := k2_sels lw_privs ++ tables_1
theorem lw_privs_ok : ∀ q ∈ lw_privs, lw_okq q := by
  show ∀ q ∈ lw_privs_1 ++ (lw_privs_2), lw_okq q
  exact List.forall_mem_append.mpr ⟨lw_r1, lw_r2⟩
-- ===== names =====
def RX0 : String := "SheepChess$Ahead"
def TX0 : u_T := fun k => match k with
  | 0 => ("SheepChess$Ahead", "land", "LSheepChess$Land;", true)
  | 1 => ("SheepChess$Ahead", "levels", "LSheepChess$Pile;", true)
  | 2 => ("SheepChess$Ahead", "path", "[I", true)
  | 3 => ("SheepChess$Ahead", "ownDays", "I", false)
  | _ => ("SheepChess$Ahead", "best", "I", false)
def tyX0 : Nat → FieldType := fun k => match k with
  | 0 => .object "SheepChess$Land"
  | 1 => .object "SheepChess$Pile"
  | 2 => .array .int
  | 3 => .int
  | _ => .int
abbrev wsX00 : List Cond := u_ws RX0 TX0 5
theorem nmX0 : ∀ a, a < 5 → ∀ b, b < 5 → a ≠ b → (TX0 a).2.1 ≠ (TX0 b).2.1 := by decide +kernel
theorem tyX0_ok : ∀ k, k < 5 → parseFieldDescriptor (TX0 k).2.2.1 = some (tyX0 k) := by decide +kernel
abbrev cX0_init : ByteArray := prog_2_method_1_code
def yX0_init : MethodName := ⟨RX0, "<init>", "(LSheepChess$Land;)V"⟩
abbrev cX0_pass : ByteArray := prog_2_method_2_code
def yX0_pass : MethodName := ⟨RX0, "pass", "(III)LSheepChess$Meadow;"⟩
abbrev cX0_daysToWell : ByteArray := prog_2_method_3_code
def yX0_daysToWell : MethodName := ⟨RX0, "daysToWell", "(LSheepChess$Meadow;I)I"⟩
abbrev cX0_comesToWell : ByteArray := prog_2_method_4_code
def yX0_comesToWell : MethodName := ⟨RX0, "comesToWell", "(IIII)Z"⟩
abbrev cX0_note : ByteArray := prog_2_method_5_code
def yX0_note : MethodName := ⟨RX0, "note", "(II)V"⟩
abbrev cX0_onOwnDay : ByteArray := prog_2_method_6_code
def yX0_onOwnDay : MethodName := ⟨RX0, "onOwnDay", "(I)I"⟩
abbrev cX0_worthBehind : ByteArray := prog_2_method_7_code
def yX0_worthBehind : MethodName := ⟨RX0, "worthBehind", "(LSheepChess$Meadow;I)I"⟩
abbrev cX0_worthFrom : ByteArray := prog_2_method_8_code
def yX0_worthFrom : MethodName := ⟨RX0, "worthFrom", "(II)I"⟩
abbrev cX0_staying : ByteArray := prog_2_method_9_code
def yX0_staying : MethodName := ⟨RX0, "staying", "(LSheepChess$Meadow;III)J"⟩
abbrev cX0_stayingFrom : ByteArray := prog_2_method_10_code
def yX0_stayingFrom : MethodName := ⟨RX0, "stayingFrom", "(IIII)J"⟩
def RX1 : String := "SheepChess$Land"
def TX1 : u_T := fun k => match k with
  | 0 => ("SheepChess$Land", "squares", "I", false)
  | 1 => ("SheepChess$Land", "width", "I", false)
  | 2 => ("SheepChess$Land", "rows", "I", false)
  | 3 => ("SheepChess$Land", "beasts", "I", false)
  | 4 => ("SheepChess$Land", "well", "I", false)
  | 5 => ("SheepChess$Land", "bears", "I", false)
  | 6 => ("SheepChess$Land", "snows", "I", false)
  | 7 => ("SheepChess$Land", "village", "[I", true)
  | _ => ("SheepChess$Land", "snow", "[I", true)
def tyX1 : Nat → FieldType := fun k => match k with
  | 0 => .int
  | 1 => .int
  | 2 => .int
  | 3 => .int
  | 4 => .int
  | 5 => .int
  | 6 => .int
  | 7 => .array .int
  | _ => .array .int
abbrev wsX10 : List Cond := u_ws RX1 TX1 9
theorem nmX1 : ∀ a, a < 9 → ∀ b, b < 9 → a ≠ b → (TX1 a).2.1 ≠ (TX1 b).2.1 := by decide +kernel
theorem tyX1_ok : ∀ k, k < 9 → parseFieldDescriptor (TX1 k).2.2.1 = some (tyX1 k) := by decide +kernel
abbrev cX1_init : ByteArray := prog_3_method_1_code
def yX1_init : MethodName := ⟨RX1, "<init>", "()V"⟩
abbrev cX1_clear : ByteArray := prog_3_method_2_code
def yX1_clear : MethodName := ⟨RX1, "clear", "()V"⟩
abbrev cX1_copyFrom : ByteArray := prog_3_method_3_code
def yX1_copyFrom : MethodName := ⟨RX1, "copyFrom", "(LSheepChess$Land;)V"⟩
abbrev cX1_hasSquare : ByteArray := prog_3_method_4_code
def yX1_hasSquare : MethodName := ⟨RX1, "hasSquare", "(I)Z"⟩
abbrev cX1_hasBeast : ByteArray := prog_3_method_5_code
def yX1_hasBeast : MethodName := ⟨RX1, "hasBeast", "(I)Z"⟩
abbrev cX1_villageOf : ByteArray := prog_3_method_6_code
def yX1_villageOf : MethodName := ⟨RX1, "villageOf", "(I)I"⟩
abbrev cX1_snowsOn : ByteArray := prog_3_method_7_code
def yX1_snowsOn : MethodName := ⟨RX1, "snowsOn", "(I)Z"⟩
abbrev cX1_beside : ByteArray := prog_3_method_8_code
def yX1_beside : MethodName := ⟨RX1, "beside", "(II)I"⟩
abbrev cX1_turnsPawn : ByteArray := prog_3_method_9_code
def yX1_turnsPawn : MethodName := ⟨RX1, "turnsPawn", "(II)Z"⟩
def RX2 : String := "SheepChess$Meadow"
def TX2 : u_T := fun k => match k with
  | 0 => ("SheepChess$Meadow", "land", "LSheepChess$Land;", true)
  | 1 => ("SheepChess$Meadow", "grass", "[I", true)
  | 2 => ("SheepChess$Meadow", "place", "[I", true)
  | 3 => ("SheepChess$Meadow", "kind", "[I", true)
  | 4 => ("SheepChess$Meadow", "hunger", "[I", true)
  | _ => ("SheepChess$Meadow", "day", "I", false)
def tyX2 : Nat → FieldType := fun k => match k with
  | 0 => .object "SheepChess$Land"
  | 1 => .array .int
  | 2 => .array .int
  | 3 => .array .int
  | 4 => .array .int
  | _ => .int
abbrev wsX20 : List Cond := u_ws RX2 TX2 6
theorem nmX2 : ∀ a, a < 6 → ∀ b, b < 6 → a ≠ b → (TX2 a).2.1 ≠ (TX2 b).2.1 := by decide +kernel
theorem tyX2_ok : ∀ k, k < 6 → parseFieldDescriptor (TX2 k).2.2.1 = some (tyX2 k) := by decide +kernel
abbrev cX2_init : ByteArray := prog_4_method_1_code
def yX2_init : MethodName := ⟨RX2, "<init>", "(LSheepChess$Land;)V"⟩
abbrev cX2_copyFrom : ByteArray := prog_4_method_2_code
def yX2_copyFrom : MethodName := ⟨RX2, "copyFrom", "(LSheepChess$Meadow;)V"⟩
abbrev cX2_grassOn : ByteArray := prog_4_method_3_code
def yX2_grassOn : MethodName := ⟨RX2, "grassOn", "(I)I"⟩
abbrev cX2_kindOf : ByteArray := prog_4_method_4_code
def yX2_kindOf : MethodName := ⟨RX2, "kindOf", "(I)I"⟩
abbrev cX2_placeOf : ByteArray := prog_4_method_5_code
def yX2_placeOf : MethodName := ⟨RX2, "placeOf", "(I)I"⟩
abbrev cX2_hungerOf : ByteArray := prog_4_method_6_code
def yX2_hungerOf : MethodName := ⟨RX2, "hungerOf", "(I)I"⟩
abbrev cX2_isOff : ByteArray := prog_4_method_7_code
def yX2_isOff : MethodName := ⟨RX2, "isOff", "(I)Z"⟩
abbrev cX2_turn : ByteArray := prog_4_method_8_code
def yX2_turn : MethodName := ⟨RX2, "turn", "()I"⟩
abbrev cX2_snowing : ByteArray := prog_4_method_9_code
def yX2_snowing : MethodName := ⟨RX2, "snowing", "()Z"⟩
abbrev cX2_occupant : ByteArray := prog_4_method_10_code
def yX2_occupant : MethodName := ⟨RX2, "occupant", "(I)I"⟩
abbrev cX2_put : ByteArray := prog_4_method_11_code
def yX2_put : MethodName := ⟨RX2, "put", "(III)V"⟩
abbrev cX2_reach : ByteArray := prog_4_method_12_code
def yX2_reach : MethodName := ⟨RX2, "reach", "(IIZ)I"⟩
abbrev cX2_isOpen : ByteArray := prog_4_method_13_code
def yX2_isOpen : MethodName := ⟨RX2, "isOpen", "(IIZ)Z"⟩
abbrev cX2_ramBeside : ByteArray := prog_4_method_14_code
def yX2_ramBeside : MethodName := ⟨RX2, "ramBeside", "(II)Z"⟩
abbrev cX2_driven : ByteArray := prog_4_method_15_code
def yX2_driven : MethodName := ⟨RX2, "driven", "(II)I"⟩
abbrev cX2_move : ByteArray := prog_4_method_16_code
def yX2_move : MethodName := ⟨RX2, "move", "(II)V"⟩
abbrev cX2_live : ByteArray := prog_4_method_17_code
def yX2_live : MethodName := ⟨RX2, "live", "(I)V"⟩
abbrev cX2_passDay : ByteArray := prog_4_method_18_code
def yX2_passDay : MethodName := ⟨RX2, "passDay", "()V"⟩
abbrev cX2_graze : ByteArray := prog_4_method_19_code
def yX2_graze : MethodName := ⟨RX2, "graze", "()V"⟩
abbrev cX2_beginNextDay : ByteArray := prog_4_method_20_code
def yX2_beginNextDay : MethodName := ⟨RX2, "beginNextDay", "()V"⟩
abbrev cX2_wolfComes : ByteArray := prog_4_method_21_code
def yX2_wolfComes : MethodName := ⟨RX2, "wolfComes", "()V"⟩
abbrev cX2_bogBeside : ByteArray := prog_4_method_22_code
def yX2_bogBeside : MethodName := ⟨RX2, "bogBeside", "(I)Z"⟩
abbrev cX2_lost : ByteArray := prog_4_method_23_code
def yX2_lost : MethodName := ⟨RX2, "lost", "()I"⟩
abbrev cX2_worth : ByteArray := prog_4_method_24_code
def yX2_worth : MethodName := ⟨RX2, "worth", "()I"⟩
abbrev cX2_staying : ByteArray := prog_4_method_25_code
def yX2_staying : MethodName := ⟨RX2, "staying", "(I)I"⟩
abbrev cX2_allGrass : ByteArray := prog_4_method_26_code
def yX2_allGrass : MethodName := ⟨RX2, "allGrass", "()I"⟩
abbrev cX2_ramOnWell : ByteArray := prog_4_method_27_code
def yX2_ramOnWell : MethodName := ⟨RX2, "ramOnWell", "(I)Z"⟩
def RX3 : String := "SheepChess$Past"
def TX3 : u_T := fun k => match k with
  | 0 => ("SheepChess$Past", "land", "LSheepChess$Land;", true)
  | 1 => ("SheepChess$Past", "stood", "LSheepChess$Pile;", true)
  | 2 => ("SheepChess$Past", "told", "[I", true)
  | 3 => ("SheepChess$Past", "days", "I", false)
  | _ => ("SheepChess$Past", "oldest", "I", false)
def tyX3 : Nat → FieldType := fun k => match k with
  | 0 => .object "SheepChess$Land"
  | 1 => .object "SheepChess$Pile"
  | 2 => .array .int
  | 3 => .int
  | _ => .int
abbrev wsX30 : List Cond := u_ws RX3 TX3 5
theorem nmX3 : ∀ a, a < 5 → ∀ b, b < 5 → a ≠ b → (TX3 a).2.1 ≠ (TX3 b).2.1 := by decide +kernel
theorem tyX3_ok : ∀ k, k < 5 → parseFieldDescriptor (TX3 k).2.2.1 = some (tyX3 k) := by decide +kernel
abbrev cX3_init : ByteArray := prog_5_method_1_code
def yX3_init : MethodName := ⟨RX3, "<init>", "(LSheepChess$Land;)V"⟩
abbrev cX3_slot : ByteArray := prog_5_method_2_code
def yX3_slot : MethodName := ⟨RX3, "slot", "(I)I"⟩
abbrev cX3_before : ByteArray := prog_5_method_3_code
def yX3_before : MethodName := ⟨RX3, "before", "(I)LSheepChess$Meadow;"⟩
abbrev cX3_add : ByteArray := prog_5_method_4_code
def yX3_add : MethodName := ⟨RX3, "add", "(LSheepChess$Meadow;I)V"⟩
abbrev cX3_otherwiseIs : ByteArray := prog_5_method_5_code
def yX3_otherwiseIs : MethodName := ⟨RX3, "otherwiseIs", "(IILSheepChess$Meadow;)Z"⟩
def RX4 : String := "SheepChess$Pile"
def TX4 : u_T := fun k => match k with
  | 0 => ("SheepChess$Pile", "lowest", "LSheepChess$Meadow;", true)
  | _ => ("SheepChess$Pile", "meadows", "[LSheepChess$Meadow;", true)
def tyX4 : Nat → FieldType := fun k => match k with
  | 0 => .object "SheepChess$Meadow"
  | _ => .array (.object "SheepChess$Meadow")
abbrev wsX40 : List Cond := u_ws RX4 TX4 2
theorem nmX4 : ∀ a, a < 2 → ∀ b, b < 2 → a ≠ b → (TX4 a).2.1 ≠ (TX4 b).2.1 := by decide +kernel
theorem tyX4_ok : ∀ k, k < 2 → parseFieldDescriptor (TX4 k).2.2.1 = some (tyX4 k) := by decide +kernel
abbrev cX4_init : ByteArray := prog_6_method_1_code
def yX4_init : MethodName := ⟨RX4, "<init>", "(LSheepChess$Land;I)V"⟩
abbrev cX4_get : ByteArray := prog_6_method_2_code
def yX4_get : MethodName := ⟨RX4, "get", "(I)LSheepChess$Meadow;"⟩
def RX5 : String := "SheepChess$Sheet"
def TX5 : u_T := fun k => match k with
  | 0 => ("SheepChess$Sheet", "letters", "[I", true)
  | 1 => ("SheepChess$Sheet", "land", "LSheepChess$Land;", true)
  | 2 => ("SheepChess$Sheet", "meadow", "LSheepChess$Meadow;", true)
  | 3 => ("SheepChess$Sheet", "length", "I", false)
  | _ => ("SheepChess$Sheet", "head", "I", false)
def tyX5 : Nat → FieldType := fun k => match k with
  | 0 => .array .int
  | 1 => .object "SheepChess$Land"
  | 2 => .object "SheepChess$Meadow"
  | 3 => .int
  | _ => .int
abbrev wsX50 : List Cond := u_ws RX5 TX5 5
theorem nmX5 : ∀ a, a < 5 → ∀ b, b < 5 → a ≠ b → (TX5 a).2.1 ≠ (TX5 b).2.1 := by decide +kernel
theorem tyX5_ok : ∀ k, k < 5 → parseFieldDescriptor (TX5 k).2.2.1 = some (tyX5 k) := by decide +kernel
abbrev cX5_init : ByteArray := prog_7_method_1_code
def yX5_init : MethodName := ⟨RX5, "<init>", "()V"⟩
abbrev cX5_add : ByteArray := prog_7_method_2_code
def yX5_add : MethodName := ⟨RX5, "add", "(I)Z"⟩
abbrev cX5_firstFault : ByteArray := prog_7_method_3_code
def yX5_firstFault : MethodName := ⟨RX5, "firstFault", "()I"⟩
abbrev cX5_readItem : ByteArray := prog_7_method_4_code
def yX5_readItem : MethodName := ⟨RX5, "readItem", "()Z"⟩
abbrev cX5_letterAtHead : ByteArray := prog_7_method_5_code
def yX5_letterAtHead : MethodName := ⟨RX5, "letterAtHead", "()I"⟩
abbrev cX5_passes : ByteArray := prog_7_method_6_code
def yX5_passes : MethodName := ⟨RX5, "passes", "(I)Z"⟩
abbrev cX5_readFigure : ByteArray := prog_7_method_7_code
def yX5_readFigure : MethodName := ⟨RX5, "readFigure", "()I"⟩
abbrev cX5_readNumber : ByteArray := prog_7_method_8_code
def yX5_readNumber : MethodName := ⟨RX5, "readNumber", "()I"⟩
abbrev cX5_readRow : ByteArray := prog_7_method_9_code
def yX5_readRow : MethodName := ⟨RX5, "readRow", "()Z"⟩
abbrev cX5_readBeast : ByteArray := prog_7_method_10_code
def yX5_readBeast : MethodName := ⟨RX5, "readBeast", "()Z"⟩
abbrev cX5_readWell : ByteArray := prog_7_method_11_code
def yX5_readWell : MethodName := ⟨RX5, "readWell", "()Z"⟩
abbrev cX5_readHunger : ByteArray := prog_7_method_12_code
def yX5_readHunger : MethodName := ⟨RX5, "readHunger", "()Z"⟩
abbrev cX5_readSnow : ByteArray := prog_7_method_13_code
def yX5_readSnow : MethodName := ⟨RX5, "readSnow", "()Z"⟩
def RX6 : String := "SheepChess$Walk"
def TX6 : u_T := fun k => match k with
  | 0 => ("SheepChess$Walk", "meadow", "LSheepChess$Meadow;", true)
  | 1 => ("SheepChess$Walk", "place", "[I", true)
  | 2 => ("SheepChess$Walk", "kind", "[I", true)
  | 3 => ("SheepChess$Walk", "drives", "[I", true)
  | 4 => ("SheepChess$Walk", "before", "[I", true)
  | 5 => ("SheepChess$Walk", "by", "[I", true)
  | 6 => ("SheepChess$Walk", "seen", "[Z", true)
  | _ => ("SheepChess$Walk", "stands", "I", false)
def tyX6 : Nat → FieldType := fun k => match k with
  | 0 => .object "SheepChess$Meadow"
  | 1 => .array .int
  | 2 => .array .int
  | 3 => .array .int
  | 4 => .array .int
  | 5 => .array .int
  | 6 => .array .boolean
  | _ => .int
abbrev wsX60 : List Cond := u_ws RX6 TX6 8
theorem nmX6 : ∀ a, a < 8 → ∀ b, b < 8 → a ≠ b → (TX6 a).2.1 ≠ (TX6 b).2.1 := by decide +kernel
theorem tyX6_ok : ∀ k, k < 8 → parseFieldDescriptor (TX6 k).2.2.1 = some (tyX6 k) := by decide +kernel
abbrev cX6_init : ByteArray := prog_8_method_1_code
def yX6_init : MethodName := ⟨RX6, "<init>", "(LSheepChess$Land;)V"⟩
abbrev cX6_from : ByteArray := prog_8_method_2_code
def yX6_from : MethodName := ⟨RX6, "from", "(LSheepChess$Meadow;I)V"⟩
abbrev cX6_add : ByteArray := prog_8_method_3_code
def yX6_add : MethodName := ⟨RX6, "add", "(IIII)V"⟩
abbrev cX6_first : ByteArray := prog_8_method_4_code
def yX6_first : MethodName := ⟨RX6, "first", "(I)I"⟩
abbrev cX6_drivesTo : ByteArray := prog_8_method_5_code
def yX6_drivesTo : MethodName := ⟨RX6, "drivesTo", "(I)I"⟩
abbrev cX6_wayTo : ByteArray := prog_8_method_6_code
def yX6_wayTo : MethodName := ⟨RX6, "wayTo", "(II)I"⟩
abbrev cX6_squaresWithin : ByteArray := prog_8_method_7_code
def yX6_squaresWithin : MethodName := ⟨RX6, "squaresWithin", "(I)I"⟩
def RX7 : String := "SheepChess"
def TX7 : u_T := fun k => match k with
  | 0 => ("SheepChess", "land", "LSheepChess$Land;", true)
  | 1 => ("SheepChess", "sheet", "LSheepChess$Sheet;", true)
  | 2 => ("SheepChess", "now", "LSheepChess$Meadow;", true)
  | 3 => ("SheepChess", "spare", "LSheepChess$Meadow;", true)
  | 4 => ("SheepChess", "past", "LSheepChess$Past;", true)
  | 5 => ("SheepChess", "kept", "LSheepChess$Pile;", true)
  | 6 => ("SheepChess", "walk", "LSheepChess$Walk;", true)
  | 7 => ("SheepChess", "ahead", "LSheepChess$Ahead;", true)
  | _ => ("SheepChess", "keptNow", "I", false)
def tyX7 : Nat → FieldType := fun k => match k with
  | 0 => .object "SheepChess$Land"
  | 1 => .object "SheepChess$Sheet"
  | 2 => .object "SheepChess$Meadow"
  | 3 => .object "SheepChess$Meadow"
  | 4 => .object "SheepChess$Past"
  | 5 => .object "SheepChess$Pile"
  | 6 => .object "SheepChess$Walk"
  | 7 => .object "SheepChess$Ahead"
  | _ => .int
abbrev wsX70 : List Cond := u_ws RX7 TX7 9
theorem nmX7 : ∀ a, a < 9 → ∀ b, b < 9 → a ≠ b → (TX7 a).2.1 ≠ (TX7 b).2.1 := by decide +kernel
theorem tyX7_ok : ∀ k, k < 9 → parseFieldDescriptor (TX7 k).2.2.1 = some (tyX7 k) := by decide +kernel
abbrev cX7_init : ByteArray := prog_1_method_1_code
def yX7_init : MethodName := ⟨RX7, "<init>", "()V"⟩
abbrev cX7_write : ByteArray := prog_1_method_2_code
def yX7_write : MethodName := ⟨RX7, "write", "(I)I"⟩
abbrev cX7_wipe : ByteArray := prog_1_method_3_code
def yX7_wipe : MethodName := ⟨RX7, "wipe", "()I"⟩
abbrev cX7_fault : ByteArray := prog_1_method_4_code
def yX7_fault : MethodName := ⟨RX7, "fault", "()I"⟩
abbrev cX7_lay : ByteArray := prog_1_method_5_code
def yX7_lay : MethodName := ⟨RX7, "lay", "()I"⟩
abbrev cX7_square : ByteArray := prog_1_method_6_code
def yX7_square : MethodName := ⟨RX7, "square", "(II)I"⟩
abbrev cX7_beast : ByteArray := prog_1_method_7_code
def yX7_beast : MethodName := ⟨RX7, "beast", "(II)I"⟩
abbrev cX7_goes : ByteArray := prog_1_method_8_code
def yX7_goes : MethodName := ⟨RX7, "goes", "(II)I"⟩
abbrev cX7_takes : ByteArray := prog_1_method_9_code
def yX7_takes : MethodName := ⟨RX7, "takes", "(II)I"⟩
abbrev cX7_drive : ByteArray := prog_1_method_10_code
def yX7_drive : MethodName := ⟨RX7, "drive", "(II)I"⟩
abbrev cX7_rest : ByteArray := prog_1_method_11_code
def yX7_rest : MethodName := ⟨RX7, "rest", "()I"⟩
abbrev cX7_undo : ByteArray := prog_1_method_12_code
def yX7_undo : MethodName := ⟨RX7, "undo", "()I"⟩
abbrev cX7_fewest : ByteArray := prog_1_method_13_code
def yX7_fewest : MethodName := ⟨RX7, "fewest", "(III)I"⟩
abbrev cX7_stray : ByteArray := prog_1_method_14_code
def yX7_stray : MethodName := ⟨RX7, "stray", "(II)I"⟩
abbrev cX7_summer : ByteArray := prog_1_method_15_code
def yX7_summer : MethodName := ⟨RX7, "summer", "(II)I"⟩
abbrev cX7_game : ByteArray := prog_1_method_16_code
def yX7_game : MethodName := ⟨RX7, "game", "(II)I"⟩
abbrev cX7_again : ByteArray := prog_1_method_17_code
def yX7_again : MethodName := ⟨RX7, "again", "(I)I"⟩
abbrev cX7_starves : ByteArray := prog_1_method_18_code
def yX7_starves : MethodName := ⟨RX7, "starves", "(I)I"⟩
abbrev cX7_otherwise : ByteArray := prog_1_method_19_code
def yX7_otherwise : MethodName := ⟨RX7, "otherwise", "(III)I"⟩
abbrev cX7_wolves : ByteArray := prog_1_method_20_code
def yX7_wolves : MethodName := ⟨RX7, "wolves", "(IIII)I"⟩
abbrev cX7_season : ByteArray := prog_1_method_21_code
def yX7_season : MethodName := ⟨RX7, "season", "(III)I"⟩
abbrev cX7_keep : ByteArray := prog_1_method_22_code
def yX7_keep : MethodName := ⟨RX7, "keep", "()I"⟩
abbrev cX7_back : ByteArray := prog_1_method_23_code
def yX7_back : MethodName := ⟨RX7, "back", "()I"⟩
abbrev cX7_count : ByteArray := prog_1_method_24_code
def yX7_count : MethodName := ⟨RX7, "count", "(I)I"⟩
abbrev cX7_begin : ByteArray := prog_1_method_25_code
def yX7_begin : MethodName := ⟨RX7, "begin", "()Z"⟩
abbrev cX7_isWay : ByteArray := prog_1_method_26_code
def yX7_isWay : MethodName := ⟨RX7, "isWay", "(I)Z"⟩
abbrev cX7_isVillage : ByteArray := prog_1_method_27_code
def yX7_isVillage : MethodName := ⟨RX7, "isVillage", "(I)Z"⟩
abbrev cX7_draw : ByteArray := prog_1_method_28_code
def yX7_draw : MethodName := ⟨RX7, "draw", "(II)I"⟩
abbrev cX7_commonPart : ByteArray := prog_1_method_29_code
def yX7_commonPart : MethodName := ⟨RX7, "commonPart", "(JJ)J"⟩
def RX8 : String := "SheepChessModel"
def TX8 : u_T := fun k => match k with
  | _ => ("", "", "", false)
def tyX8 : Nat → FieldType := fun k => match k with
  | _ => .int
abbrev wsX80 : List Cond := u_ws RX8 TX8 0
theorem nmX8 : ∀ a, a < 0 → ∀ b, b < 0 → a ≠ b → (TX8 a).2.1 ≠ (TX8 b).2.1 := by decide +kernel
theorem tyX8_ok : ∀ k, k < 0 → parseFieldDescriptor (TX8 k).2.2.1 = some (tyX8 k) := by decide +kernel
def RJ9 : String := "java/lang/Math"
def TJ9 : u_T := fun k => match k with
  | _ => ("", "", "", false)
def tyJ9 : Nat → FieldType := fun k => match k with
  | _ => .int
abbrev wsJ90 : List Cond := u_ws RJ9 TJ9 0
theorem nmJ9 : ∀ a, a < 0 → ∀ b, b < 0 → a ≠ b → (TJ9 a).2.1 ≠ (TJ9 b).2.1 := by decide +kernel
theorem tyJ9_ok : ∀ k, k < 0 → parseFieldDescriptor (TJ9 k).2.2.1 = some (tyJ9 k) := by decide +kernel
abbrev cJ9_floorMod_7cf53 : ByteArray := prog_11_method_50_code
def yJ9_floorMod_7cf53 : MethodName := ⟨RJ9, "floorMod", "(II)I"⟩
abbrev cJ9_abs_0f7a4 : ByteArray := prog_11_method_59_code
def yJ9_abs_0f7a4 : MethodName := ⟨RJ9, "abs", "(I)I"⟩
def RJ0 : String := "java/lang/String"
def TJ0 : u_T := fun k => match k with
  | _ => ("", "", "", false)
def tyJ0 : Nat → FieldType := fun k => match k with
  | _ => .int
abbrev wsJ00 : List Cond := u_ws RJ0 TJ0 0
theorem nmJ0 : ∀ a, a < 0 → ∀ b, b < 0 → a ≠ b → (TJ0 a).2.1 ≠ (TJ0 b).2.1 := by decide +kernel
theorem tyJ0_ok : ∀ k, k < 0 → parseFieldDescriptor (TJ0 k).2.2.1 = some (tyJ0 k) := by decide +kernel
abbrev cJ0_length_8abf5 : ByteArray := prog_12_method_54_code
def yJ0_length_8abf5 : MethodName := ⟨RJ0, "length", "()I"⟩
abbrev cJ0_charAt_5068e : ByteArray := prog_12_method_56_code
def yJ0_charAt_5068e : MethodName := ⟨RJ0, "charAt", "(I)C"⟩
abbrev cJ0_coder_7d493 : ByteArray := prog_12_method_152_code
def yJ0_coder_7d493 : MethodName := ⟨RJ0, "coder", "()B"⟩
abbrev cJ0_isLatin1_aae02 : ByteArray := prog_12_method_154_code
def yJ0_isLatin1_aae02 : MethodName := ⟨RJ0, "isLatin1", "()Z"⟩
abbrev cJ0_checkIndex_df160 : ByteArray := prog_12_method_155_code
def yJ0_checkIndex_df160 : MethodName := ⟨RJ0, "checkIndex", "(II)V"⟩
def RJ1 : String := "java/lang/StringLatin1"
def TJ1 : u_T := fun k => match k with
  | _ => ("", "", "", false)
def tyJ1 : Nat → FieldType := fun k => match k with
  | _ => .int
abbrev wsJ10 : List Cond := u_ws RJ1 TJ1 0
theorem nmJ1 : ∀ a, a < 0 → ∀ b, b < 0 → a ≠ b → (TJ1 a).2.1 ≠ (TJ1 b).2.1 := by decide +kernel
theorem tyJ1_ok : ∀ k, k < 0 → parseFieldDescriptor (TJ1 k).2.2.1 = some (tyJ1 k) := by decide +kernel
abbrev cJ1_charAt_3b067 : ByteArray := prog_13_method_2_code
def yJ1_charAt_3b067 : MethodName := ⟨RJ1, "charAt", "([BI)C"⟩
def RJ2 : String := "java/lang/StringUTF16"
def TJ2 : u_T := fun k => match k with
  | _ => ("", "", "", false)
def tyJ2 : Nat → FieldType := fun k => match k with
  | _ => .int
abbrev wsJ20 : List Cond := u_ws RJ2 TJ2 0
theorem nmJ2 : ∀ a, a < 0 → ∀ b, b < 0 → a ≠ b → (TJ2 a).2.1 ≠ (TJ2 b).2.1 := by decide +kernel
theorem tyJ2_ok : ∀ k, k < 0 → parseFieldDescriptor (TJ2 k).2.2.1 = some (tyJ2 k) := by decide +kernel
abbrev cJ2_getChar_3b067 : ByteArray := prog_14_method_5_code
def yJ2_getChar_3b067 : MethodName := ⟨RJ2, "getChar", "([BI)C"⟩
abbrev cJ2_length_9d52b : ByteArray := prog_14_method_6_code
def yJ2_length_9d52b : MethodName := ⟨RJ2, "length", "([B)I"⟩
abbrev cJ2_charAt_3b067 : ByteArray := prog_14_method_83_code
def yJ2_charAt_3b067 : MethodName := ⟨RJ2, "charAt", "([BI)C"⟩
abbrev cJ2_checkIndex_2214a : ByteArray := prog_14_method_91_code
def yJ2_checkIndex_2214a : MethodName := ⟨RJ2, "checkIndex", "(I[B)V"⟩
def RJ10 : String := "java/lang/System"
def TJ10 : u_T := fun k => match k with
  | _ => ("", "", "", false)
def tyJ10 : Nat → FieldType := fun k => match k with
  | _ => .int
abbrev wsJ100 : List Cond := u_ws RJ10 TJ10 0
theorem nmJ10 : ∀ a, a < 0 → ∀ b, b < 0 → a ≠ b → (TJ10 a).2.1 ≠ (TJ10 b).2.1 := by decide +kernel
theorem tyJ10_ok : ∀ k, k < 0 → parseFieldDescriptor (TJ10 k).2.2.1 = some (tyJ10 k) := by decide +kernel
def RJ3 : String := "jdk/internal/util/Preconditions"
def TJ3 : u_T := fun k => match k with
  | _ => ("", "", "", false)
def tyJ3 : Nat → FieldType := fun k => match k with
  | _ => .int
abbrev wsJ30 : List Cond := u_ws RJ3 TJ3 0
theorem nmJ3 : ∀ a, a < 0 → ∀ b, b < 0 → a ≠ b → (TJ3 a).2.1 ≠ (TJ3 b).2.1 := by decide +kernel
theorem tyJ3_ok : ∀ k, k < 0 → parseFieldDescriptor (TJ3 k).2.2.1 = some (tyJ3 k) := by decide +kernel
abbrev cJ3_checkIndex_8e157 : ByteArray := prog_16_method_11_code
def yJ3_checkIndex_8e157 : MethodName := ⟨RJ3, "checkIndex", "(IILjava/util/function/BiFunction;)I"⟩
def RL : String := "SheepChessLaw"
abbrev cL_cell : ByteArray := method_2_code
def yL_cell : MethodName := ⟨RL, "cell", "([II)I"⟩
abbrev cL_low : ByteArray := method_3_code
def yL_low : MethodName := ⟨RL, "low", "(II)I"⟩
abbrev cL_number : ByteArray := method_4_code
def yL_number : MethodName := ⟨RL, "number", "(LSheepChess;II)Z"⟩
abbrev cL_one : ByteArray := method_5_code
def yL_one : MethodName := ⟨RL, "one", "(LSheepChess;II)Z"⟩
abbrev cL_make : ByteArray := method_6_code
def yL_make : MethodName := ⟨RL, "make", "(LSheepChess;[III[I[I)Z"⟩
abbrev cL_bog : ByteArray := method_7_code
def yL_bog : MethodName := ⟨RL, "bog", "([II)Z"⟩
abbrev cL_agrees : ByteArray := method_8_code
def yL_agrees : MethodName := ⟨RL, "agrees", "(LSheepChess;[I)Z"⟩
abbrev cL_drives : ByteArray := method_9_code
def yL_drives : MethodName := ⟨RL, "drives", "(LSheepChess;[III)Z"⟩
abbrev cL_strays : ByteArray := method_10_code
def yL_strays : MethodName := ⟨RL, "strays", "(LSheepChess;[II)Z"⟩
abbrev cL_summers : ByteArray := method_11_code
def yL_summers : MethodName := ⟨RL, "summers", "(LSheepChess;[II)Z"⟩
abbrev cL_games : ByteArray := method_12_code
def yL_games : MethodName := ⟨RL, "games", "(LSheepChess;)Z"⟩
abbrev cL_rests : ByteArray := method_13_code
def yL_rests : MethodName := ⟨RL, "rests", "(LSheepChess;[II)Z"⟩
abbrev cL_law : ByteArray := code
def yL_law : MethodName := ⟨RL, "law", "([I)Z"⟩
