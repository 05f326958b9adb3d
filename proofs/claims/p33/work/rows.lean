section
-- ===== PART A: goes FIRST, ahead of the names: the tables' words, and 'selects' of the private methods out of them =====
/-- a private method of a class that the tables say can be made, by its rows of tables_1 -/
def lw_okq (q : MethodName × Nat) : Prop := (q.1.cls ≠ "java/lang/invoke/MethodHandle" ∧ q.1.cls ≠ "java/lang/invoke/VarHandle") ∧ Cond.instantiable q.1.cls q.2 ∈ tables_1 ∧ Cond.privateMethod q.1 ∈ tables_1 ∧ Cond.instanceMethod q.1 ∈ tables_1
theorem lw_p0 : lw_okq (⟨"PickupYard$History", "dropOldest", "()V"⟩, 2) := ⟨⟨by decide +kernel, by decide +kernel⟩, List.mem_of_getElem? (i := 170) (by decide +kernel), List.mem_of_getElem? (i := 266) (by decide +kernel), List.mem_of_getElem? (i := 267) (by decide +kernel)⟩
theorem lw_p1 : lw_okq (⟨"PickupYard$Yard", "makeMove", "(II)V"⟩, 14) := ⟨⟨by decide +kernel, by decide +kernel⟩, List.mem_of_getElem? (i := 20) (by decide +kernel), List.mem_of_getElem? (i := 401) (by decide +kernel), List.mem_of_getElem? (i := 402) (by decide +kernel)⟩
theorem lw_p2 : lw_okq (⟨"PickupYard$Yard", "comeTo", "(I)V"⟩, 14) := ⟨⟨by decide +kernel, by decide +kernel⟩, List.mem_of_getElem? (i := 20) (by decide +kernel), List.mem_of_getElem? (i := 409) (by decide +kernel), List.mem_of_getElem? (i := 410) (by decide +kernel)⟩
theorem lw_p3 : lw_okq (⟨"PickupYard", "readList", "(J)I"⟩, 7) := ⟨⟨by decide +kernel, by decide +kernel⟩, List.mem_of_getElem? (i := 12) (by decide +kernel), List.mem_of_getElem? (i := 476) (by decide +kernel), List.mem_of_getElem? (i := 477) (by decide +kernel)⟩
theorem lw_p4 : lw_okq (⟨"PickupYard$Yard", "areThere", "([II)Z"⟩, 14) := ⟨⟨by decide +kernel, by decide +kernel⟩, List.mem_of_getElem? (i := 20) (by decide +kernel), List.mem_of_getElem? (i := 485) (by decide +kernel), List.mem_of_getElem? (i := 486) (by decide +kernel)⟩
theorem lw_p5 : lw_okq (⟨"PickupYard$Yard", "lengthOfList", "(I)I"⟩, 14) := ⟨⟨by decide +kernel, by decide +kernel⟩, List.mem_of_getElem? (i := 20) (by decide +kernel), List.mem_of_getElem? (i := 510) (by decide +kernel), List.mem_of_getElem? (i := 511) (by decide +kernel)⟩
theorem lw_p6 : lw_okq (⟨"PickupYard$Trial", "couldAfterOne", "(I)Z"⟩, 1) := ⟨⟨by decide +kernel, by decide +kernel⟩, List.mem_of_getElem? (i := 157) (by decide +kernel), List.mem_of_getElem? (i := 565) (by decide +kernel), List.mem_of_getElem? (i := 566) (by decide +kernel)⟩
theorem lw_p7 : lw_okq (⟨"PickupYard$Trial", "isTurned", "(I)Z"⟩, 1) := ⟨⟨by decide +kernel, by decide +kernel⟩, List.mem_of_getElem? (i := 157) (by decide +kernel), List.mem_of_getElem? (i := 572) (by decide +kernel), List.mem_of_getElem? (i := 573) (by decide +kernel)⟩
theorem lw_p8 : lw_okq (⟨"PickupYard$Trial", "trackOfNext", "(II)I"⟩, 1) := ⟨⟨by decide +kernel, by decide +kernel⟩, List.mem_of_getElem? (i := 157) (by decide +kernel), List.mem_of_getElem? (i := 581) (by decide +kernel), List.mem_of_getElem? (i := 582) (by decide +kernel)⟩
theorem lw_p9 : lw_okq (⟨"PickupYard$Trial", "manyNext", "(III)I"⟩, 1) := ⟨⟨by decide +kernel, by decide +kernel⟩, List.mem_of_getElem? (i := 157) (by decide +kernel), List.mem_of_getElem? (i := 586) (by decide +kernel), List.mem_of_getElem? (i := 587) (by decide +kernel)⟩
theorem lw_p10 : lw_okq (⟨"PickupYard$Trial", "couldAfterTakingOut", "(II)Z"⟩, 1) := ⟨⟨by decide +kernel, by decide +kernel⟩, List.mem_of_getElem? (i := 157) (by decide +kernel), List.mem_of_getElem? (i := 591) (by decide +kernel), List.mem_of_getElem? (i := 592) (by decide +kernel)⟩
theorem lw_p11 : lw_okq (⟨"PickupYard$Trial", "couldAfterBringingIn", "(II)Z"⟩, 1) := ⟨⟨by decide +kernel, by decide +kernel⟩, List.mem_of_getElem? (i := 157) (by decide +kernel), List.mem_of_getElem? (i := 596) (by decide +kernel), List.mem_of_getElem? (i := 597) (by decide +kernel)⟩
theorem lw_p12 : lw_okq (⟨"PickupYard$Trial", "couldAfterGoingRound", "(I)Z"⟩, 1) := ⟨⟨by decide +kernel, by decide +kernel⟩, List.mem_of_getElem? (i := 157) (by decide +kernel), List.mem_of_getElem? (i := 601) (by decide +kernel), List.mem_of_getElem? (i := 602) (by decide +kernel)⟩
def lw_privs_1 : List (MethodName × Nat) := [(⟨"PickupYard$History", "dropOldest", "()V"⟩, 2), (⟨"PickupYard$Yard", "makeMove", "(II)V"⟩, 14), (⟨"PickupYard$Yard", "comeTo", "(I)V"⟩, 14), (⟨"PickupYard", "readList", "(J)I"⟩, 7), (⟨"PickupYard$Yard", "areThere", "([II)Z"⟩, 14), (⟨"PickupYard$Yard", "lengthOfList", "(I)I"⟩, 14), (⟨"PickupYard$Trial", "couldAfterOne", "(I)Z"⟩, 1), (⟨"PickupYard$Trial", "isTurned", "(I)Z"⟩, 1), (⟨"PickupYard$Trial", "trackOfNext", "(II)I"⟩, 1), (⟨"PickupYard$Trial", "manyNext", "(III)I"⟩, 1), (⟨"PickupYard$Trial", "couldAfterTakingOut", "(II)Z"⟩, 1), (⟨"PickupYard$Trial", "couldAfterBringingIn", "(II)Z"⟩, 1), (⟨"PickupYard$Trial", "couldAfterGoingRound", "(I)Z"⟩, 1)]
theorem lw_r1 : ∀ q ∈ lw_privs_1, lw_okq q := List.forall_mem_cons.mpr ⟨lw_p0, List.forall_mem_cons.mpr ⟨lw_p1, List.forall_mem_cons.mpr ⟨lw_p2, List.forall_mem_cons.mpr ⟨lw_p3, List.forall_mem_cons.mpr ⟨lw_p4, List.forall_mem_cons.mpr ⟨lw_p5, List.forall_mem_cons.mpr ⟨lw_p6, List.forall_mem_cons.mpr ⟨lw_p7, List.forall_mem_cons.mpr ⟨lw_p8, List.forall_mem_cons.mpr ⟨lw_p9, List.forall_mem_cons.mpr ⟨lw_p10, List.forall_mem_cons.mpr ⟨lw_p11, List.forall_mem_cons.mpr ⟨lw_p12, fun _ h => absurd h List.not_mem_nil⟩⟩⟩⟩⟩⟩⟩⟩⟩⟩⟩⟩⟩
def lw_privs : List (MethodName × Nat) := lw_privs_1
def lw_tbl : List Cond := k2_sels lw_privs ++ tables_1
theorem lw_privs_ok : ∀ q ∈ lw_privs, lw_okq q := lw_r1
end
section
def RX0 : String := "PickupYard$Blocks"
def TX0 : u_T := fun k => match k with
  | 0 => ("PickupYard$Blocks", "number", "I", false)
  | 1 => ("PickupYard$Blocks", "begins", "[I", true)
  | _ => ("PickupYard$Blocks", "ends", "[I", true)
def tyX0 : Nat → FieldType := fun k => match k with
  | 0 => .int
  | 1 => .array .int
  | _ => .array .int
abbrev wsX00 : List Cond := u_ws RX0 TX0 3
theorem nmX0 : ∀ a, a < 3 → ∀ b, b < 3 → a ≠ b → (TX0 a).2.1 ≠ (TX0 b).2.1 := by decide +kernel
theorem tyX0_ok : ∀ k, k < 3 → parseFieldDescriptor (TX0 k).2.2.1 = some (tyX0 k) := by decide +kernel
abbrev cX0_init : ByteArray := prog_2_method_1_code
def yX0_init : MethodName := ⟨RX0, "<init>", "()V"⟩
abbrev cX0_copyFrom : ByteArray := prog_2_method_2_code
def yX0_copyFrom : MethodName := ⟨RX0, "copyFrom", "(LPickupYard$Blocks;)V"⟩
abbrev cX0_add : ByteArray := prog_2_method_3_code
def yX0_add : MethodName := ⟨RX0, "add", "(II)I"⟩
abbrev cX0_dropEnded : ByteArray := prog_2_method_4_code
def yX0_dropEnded : MethodName := ⟨RX0, "dropEnded", "(I)V"⟩
abbrev cX0_firstFree : ByteArray := prog_2_method_5_code
def yX0_firstFree : MethodName := ⟨RX0, "firstFree", "(II)I"⟩
def RX1 : String := "PickupYard$History"
def TX1 : u_T := fun k => match k with
  | 0 => ("PickupYard$History", "number", "I", false)
  | _ => ("PickupYard$History", "states", "[LPickupYard$Yard;", true)
def tyX1 : Nat → FieldType := fun k => match k with
  | 0 => .int
  | _ => .array (.object "PickupYard$Yard")
abbrev wsX10 : List Cond := u_ws RX1 TX1 2
theorem nmX1 : ∀ a, a < 2 → ∀ b, b < 2 → a ≠ b → (TX1 a).2.1 ≠ (TX1 b).2.1 := by decide +kernel
theorem tyX1_ok : ∀ k, k < 2 → parseFieldDescriptor (TX1 k).2.2.1 = some (tyX1 k) := by decide +kernel
abbrev cX1_init : ByteArray := prog_3_method_1_code
def yX1_init : MethodName := ⟨RX1, "<init>", "()V"⟩
abbrev cX1_note : ByteArray := prog_3_method_2_code
def yX1_note : MethodName := ⟨RX1, "note", "(LPickupYard$Yard;)V"⟩
abbrev cX1_kept : ByteArray := prog_3_method_3_code
def yX1_kept : MethodName := ⟨RX1, "kept", "(I)I"⟩
abbrev cX1_dropOldest : ByteArray := prog_3_method_4_code
def yX1_dropOldest : MethodName := ⟨RX1, "dropOldest", "()V"⟩
def RX2 : String := "PickupYard$Pad"
def TX2 : u_T := fun k => match k with
  | 0 => ("PickupYard$Pad", "length", "I", false)
  | _ => ("PickupYard$Pad", "text", "[C", true)
def tyX2 : Nat → FieldType := fun k => match k with
  | 0 => .int
  | _ => .array .char
abbrev wsX20 : List Cond := u_ws RX2 TX2 2
theorem nmX2 : ∀ a, a < 2 → ∀ b, b < 2 → a ≠ b → (TX2 a).2.1 ≠ (TX2 b).2.1 := by decide +kernel
theorem tyX2_ok : ∀ k, k < 2 → parseFieldDescriptor (TX2 k).2.2.1 = some (tyX2 k) := by decide +kernel
abbrev cX2_init : ByteArray := prog_4_method_1_code
def yX2_init : MethodName := ⟨RX2, "<init>", "()V"⟩
def RX3 : String := "PickupYard$Trains"
def TX3 : u_T := fun k => match k with
  | 0 => ("PickupYard$Trains", "waiting", "I", false)
  | 1 => ("PickupYard$Trains", "due", "[I", true)
  | 2 => ("PickupYard$Trains", "size", "[I", true)
  | _ => ("PickupYard$Trains", "lists", "[I", true)
def tyX3 : Nat → FieldType := fun k => match k with
  | 0 => .int
  | 1 => .array .int
  | 2 => .array .int
  | _ => .array .int
abbrev wsX30 : List Cond := u_ws RX3 TX3 4
theorem nmX3 : ∀ a, a < 4 → ∀ b, b < 4 → a ≠ b → (TX3 a).2.1 ≠ (TX3 b).2.1 := by decide +kernel
theorem tyX3_ok : ∀ k, k < 4 → parseFieldDescriptor (TX3 k).2.2.1 = some (tyX3 k) := by decide +kernel
abbrev cX3_init : ByteArray := prog_5_method_1_code
def yX3_init : MethodName := ⟨RX3, "<init>", "()V"⟩
abbrev cX3_copyFrom : ByteArray := prog_5_method_2_code
def yX3_copyFrom : MethodName := ⟨RX3, "copyFrom", "(LPickupYard$Trains;)V"⟩
abbrev cX3_has : ByteArray := prog_5_method_3_code
def yX3_has : MethodName := ⟨RX3, "has", "(I)Z"⟩
abbrev cX3_sizeOf : ByteArray := prog_5_method_4_code
def yX3_sizeOf : MethodName := ⟨RX3, "sizeOf", "(I)I"⟩
abbrev cX3_wagonOf : ByteArray := prog_5_method_5_code
def yX3_wagonOf : MethodName := ⟨RX3, "wagonOf", "(II)I"⟩
abbrev cX3_trainOf : ByteArray := prog_5_method_6_code
def yX3_trainOf : MethodName := ⟨RX3, "trainOf", "(I)I"⟩
abbrev cX3_add : ByteArray := prog_5_method_7_code
def yX3_add : MethodName := ⟨RX3, "add", "([III)I"⟩
abbrev cX3_remove : ByteArray := prog_5_method_8_code
def yX3_remove : MethodName := ⟨RX3, "remove", "(I)V"⟩
def RX4 : String := "PickupYard$Trial"
def TX4 : u_T := fun k => match k with
  | _ => ("PickupYard$Trial", "copy", "LPickupYard$Yard;", true)
def tyX4 : Nat → FieldType := fun k => match k with
  | _ => .object "PickupYard$Yard"
abbrev wsX40 : List Cond := u_ws RX4 TX4 1
theorem nmX4 : ∀ a, a < 1 → ∀ b, b < 1 → a ≠ b → (TX4 a).2.1 ≠ (TX4 b).2.1 := by decide +kernel
theorem tyX4_ok : ∀ k, k < 1 → parseFieldDescriptor (TX4 k).2.2.1 = some (tyX4 k) := by decide +kernel
abbrev cX4_init : ByteArray := prog_6_method_1_code
def yX4_init : MethodName := ⟨RX4, "<init>", "()V"⟩
abbrev cX4_fewestPulls : ByteArray := prog_6_method_2_code
def yX4_fewestPulls : MethodName := ⟨RX4, "fewestPulls", "(LPickupYard$Yard;I)I"⟩
abbrev cX4_trackOfNext : ByteArray := prog_6_method_3_code
def yX4_trackOfNext : MethodName := ⟨RX4, "trackOfNext", "(II)I"⟩
abbrev cX4_manyNext : ByteArray := prog_6_method_4_code
def yX4_manyNext : MethodName := ⟨RX4, "manyNext", "(III)I"⟩
abbrev cX4_fewestMoves : ByteArray := prog_6_method_5_code
def yX4_fewestMoves : MethodName := ⟨RX4, "fewestMoves", "(LPickupYard$Yard;I)I"⟩
abbrev cX4_couldAfterTakingOut : ByteArray := prog_6_method_6_code
def yX4_couldAfterTakingOut : MethodName := ⟨RX4, "couldAfterTakingOut", "(II)Z"⟩
abbrev cX4_couldAfterBringingIn : ByteArray := prog_6_method_7_code
def yX4_couldAfterBringingIn : MethodName := ⟨RX4, "couldAfterBringingIn", "(II)Z"⟩
abbrev cX4_couldAfterGoingRound : ByteArray := prog_6_method_8_code
def yX4_couldAfterGoingRound : MethodName := ⟨RX4, "couldAfterGoingRound", "(I)Z"⟩
abbrev cX4_couldAfterOne : ByteArray := prog_6_method_9_code
def yX4_couldAfterOne : MethodName := ⟨RX4, "couldAfterOne", "(I)Z"⟩
abbrev cX4_isTurned : ByteArray := prog_6_method_10_code
def yX4_isTurned : MethodName := ⟨RX4, "isTurned", "(I)Z"⟩
def RX5 : String := "PickupYard$Wagons"
def TX5 : u_T := fun k => match k with
  | 0 => ("PickupYard$Wagons", "number", "I", false)
  | 1 => ("PickupYard$Wagons", "manyGone", "I", false)
  | 2 => ("PickupYard$Wagons", "length", "[I", true)
  | 3 => ("PickupYard$Wagons", "leftAt", "[I", true)
  | 4 => ("PickupYard$Wagons", "timesPulled", "[I", true)
  | 5 => ("PickupYard$Wagons", "inRow", "[I", true)
  | _ => ("PickupYard$Wagons", "rows", "[I", true)
def tyX5 : Nat → FieldType := fun k => match k with
  | 0 => .int
  | 1 => .int
  | 2 => .array .int
  | 3 => .array .int
  | 4 => .array .int
  | 5 => .array .int
  | _ => .array .int
abbrev wsX50 : List Cond := u_ws RX5 TX5 7
theorem nmX5 : ∀ a, a < 7 → ∀ b, b < 7 → a ≠ b → (TX5 a).2.1 ≠ (TX5 b).2.1 := by decide +kernel
theorem tyX5_ok : ∀ k, k < 7 → parseFieldDescriptor (TX5 k).2.2.1 = some (tyX5 k) := by decide +kernel
abbrev cX5_init : ByteArray := prog_7_method_1_code
def yX5_init : MethodName := ⟨RX5, "<init>", "()V"⟩
abbrev cX5_copyFrom : ByteArray := prog_7_method_2_code
def yX5_copyFrom : MethodName := ⟨RX5, "copyFrom", "(LPickupYard$Wagons;)V"⟩
abbrev cX5_add : ByteArray := prog_7_method_3_code
def yX5_add : MethodName := ⟨RX5, "add", "(II)I"⟩
abbrev cX5_manyIn : ByteArray := prog_7_method_4_code
def yX5_manyIn : MethodName := ⟨RX5, "manyIn", "(I)I"⟩
abbrev cX5_wagonAt : ByteArray := prog_7_method_5_code
def yX5_wagonAt : MethodName := ⟨RX5, "wagonAt", "(II)I"⟩
abbrev cX5_rowOf : ByteArray := prog_7_method_6_code
def yX5_rowOf : MethodName := ⟨RX5, "rowOf", "(I)I"⟩
abbrev cX5_placeIn : ByteArray := prog_7_method_7_code
def yX5_placeIn : MethodName := ⟨RX5, "placeIn", "(II)I"⟩
abbrev cX5_lengthOfWagon : ByteArray := prog_7_method_8_code
def yX5_lengthOfWagon : MethodName := ⟨RX5, "lengthOfWagon", "(I)I"⟩
abbrev cX5_lengthOfRow : ByteArray := prog_7_method_9_code
def yX5_lengthOfRow : MethodName := ⟨RX5, "lengthOfRow", "(I)I"⟩
abbrev cX5_lengthOfLast : ByteArray := prog_7_method_10_code
def yX5_lengthOfLast : MethodName := ⟨RX5, "lengthOfLast", "(II)I"⟩
abbrev cX5_shift : ByteArray := prog_7_method_11_code
def yX5_shift : MethodName := ⟨RX5, "shift", "(III)V"⟩
abbrev cX5_notePulled : ByteArray := prog_7_method_12_code
def yX5_notePulled : MethodName := ⟨RX5, "notePulled", "(I)V"⟩
abbrev cX5_turnEngine : ByteArray := prog_7_method_13_code
def yX5_turnEngine : MethodName := ⟨RX5, "turnEngine", "()V"⟩
abbrev cX5_engineLeaves : ByteArray := prog_7_method_14_code
def yX5_engineLeaves : MethodName := ⟨RX5, "engineLeaves", "(I)V"⟩
def RX6 : String := "PickupYard$Yard"
def TX6 : u_T := fun k => match k with
  | 0 => ("PickupYard$Yard", "minute", "I", false)
  | 1 => ("PickupYard$Yard", "couplings", "I", false)
  | 2 => ("PickupYard$Yard", "movesMade", "I", false)
  | 3 => ("PickupYard$Yard", "waited", "I", false)
  | 4 => ("PickupYard$Yard", "fines", "I", false)
  | 5 => ("PickupYard$Yard", "trainsLeft", "I", false)
  | 6 => ("PickupYard$Yard", "settings", "[I", true)
  | 7 => ("PickupYard$Yard", "tracks", "I", false)
  | 8 => ("PickupYard$Yard", "trackLength", "[I", true)
  | 9 => ("PickupYard$Yard", "cameOut", "[I", true)
  | 10 => ("PickupYard$Yard", "pushedIn", "[I", true)
  | 11 => ("PickupYard$Yard", "wagons", "LPickupYard$Wagons;", true)
  | 12 => ("PickupYard$Yard", "blocks", "LPickupYard$Blocks;", true)
  | _ => ("PickupYard$Yard", "trains", "LPickupYard$Trains;", true)
def tyX6 : Nat → FieldType := fun k => match k with
  | 0 => .int
  | 1 => .int
  | 2 => .int
  | 3 => .int
  | 4 => .int
  | 5 => .int
  | 6 => .array .int
  | 7 => .int
  | 8 => .array .int
  | 9 => .array .int
  | 10 => .array .int
  | 11 => .object "PickupYard$Wagons"
  | 12 => .object "PickupYard$Blocks"
  | _ => .object "PickupYard$Trains"
abbrev wsX60 : List Cond := u_ws RX6 TX6 14
theorem nmX6 : ∀ a, a < 14 → ∀ b, b < 14 → a ≠ b → (TX6 a).2.1 ≠ (TX6 b).2.1 := by decide +kernel
theorem tyX6_ok : ∀ k, k < 14 → parseFieldDescriptor (TX6 k).2.2.1 = some (tyX6 k) := by decide +kernel
abbrev cX6_init : ByteArray := prog_8_method_1_code
def yX6_init : MethodName := ⟨RX6, "<init>", "()V"⟩
abbrev cX6_copyFrom : ByteArray := prog_8_method_2_code
def yX6_copyFrom : MethodName := ⟨RX6, "copyFrom", "(LPickupYard$Yard;)V"⟩
abbrev cX6_changeSetting : ByteArray := prog_8_method_3_code
def yX6_changeSetting : MethodName := ⟨RX6, "changeSetting", "(II)I"⟩
abbrev cX6_hasTrack : ByteArray := prog_8_method_4_code
def yX6_hasTrack : MethodName := ⟨RX6, "hasTrack", "(I)Z"⟩
abbrev cX6_addTrack : ByteArray := prog_8_method_5_code
def yX6_addTrack : MethodName := ⟨RX6, "addTrack", "(I)I"⟩
abbrev cX6_addWagon : ByteArray := prog_8_method_6_code
def yX6_addWagon : MethodName := ⟨RX6, "addWagon", "(II)I"⟩
abbrev cX6_addBlock : ByteArray := prog_8_method_7_code
def yX6_addBlock : MethodName := ⟨RX6, "addBlock", "(II)I"⟩
abbrev cX6_takeOut : ByteArray := prog_8_method_8_code
def yX6_takeOut : MethodName := ⟨RX6, "takeOut", "(II)I"⟩
abbrev cX6_canTakeOut : ByteArray := prog_8_method_9_code
def yX6_canTakeOut : MethodName := ⟨RX6, "canTakeOut", "(II)Z"⟩
abbrev cX6_drawOut : ByteArray := prog_8_method_10_code
def yX6_drawOut : MethodName := ⟨RX6, "drawOut", "(II)I"⟩
abbrev cX6_bringIn : ByteArray := prog_8_method_11_code
def yX6_bringIn : MethodName := ⟨RX6, "bringIn", "(II)I"⟩
abbrev cX6_canBringIn : ByteArray := prog_8_method_12_code
def yX6_canBringIn : MethodName := ⟨RX6, "canBringIn", "(II)Z"⟩
abbrev cX6_goRound : ByteArray := prog_8_method_13_code
def yX6_goRound : MethodName := ⟨RX6, "goRound", "()I"⟩
abbrev cX6_canGoRound : ByteArray := prog_8_method_14_code
def yX6_canGoRound : MethodName := ⟨RX6, "canGoRound", "()Z"⟩
abbrev cX6_makeMove : ByteArray := prog_8_method_15_code
def yX6_makeMove : MethodName := ⟨RX6, "makeMove", "(II)V"⟩
abbrev cX6_letPass : ByteArray := prog_8_method_16_code
def yX6_letPass : MethodName := ⟨RX6, "letPass", "(I)I"⟩
abbrev cX6_comeTo : ByteArray := prog_8_method_17_code
def yX6_comeTo : MethodName := ⟨RX6, "comeTo", "(I)V"⟩
abbrev cX6_addTrain : ByteArray := prog_8_method_18_code
def yX6_addTrain : MethodName := ⟨RX6, "addTrain", "([III)I"⟩
abbrev cX6_areThere : ByteArray := prog_8_method_19_code
def yX6_areThere : MethodName := ⟨RX6, "areThere", "([II)Z"⟩
abbrev cX6_letLeave : ByteArray := prog_8_method_21_code
def yX6_letLeave : MethodName := ⟨RX6, "letLeave", "(I)I"⟩
abbrev cX6_couldLeave : ByteArray := prog_8_method_22_code
def yX6_couldLeave : MethodName := ⟨RX6, "couldLeave", "(I)Z"⟩
abbrev cX6_manyAlike : ByteArray := prog_8_method_23_code
def yX6_manyAlike : MethodName := ⟨RX6, "manyAlike", "(I)I"⟩
abbrev cX6_aboutTrack : ByteArray := prog_8_method_24_code
def yX6_aboutTrack : MethodName := ⟨RX6, "aboutTrack", "(II)I"⟩
abbrev cX6_aboutWagon : ByteArray := prog_8_method_25_code
def yX6_aboutWagon : MethodName := ⟨RX6, "aboutWagon", "(II)I"⟩
abbrev cX6_aboutTrain : ByteArray := prog_8_method_26_code
def yX6_aboutTrain : MethodName := ⟨RX6, "aboutTrain", "(II)I"⟩
abbrev cX6_lengthOfList : ByteArray := prog_8_method_27_code
def yX6_lengthOfList : MethodName := ⟨RX6, "lengthOfList", "(I)I"⟩
abbrev cX6_aboutYard : ByteArray := prog_8_method_28_code
def yX6_aboutYard : MethodName := ⟨RX6, "aboutYard", "(I)I"⟩
abbrev cX6_tracksFor : ByteArray := prog_8_method_29_code
def yX6_tracksFor : MethodName := ⟨RX6, "tracksFor", "(I)I"⟩
def RX7 : String := "PickupYard"
def TX7 : u_T := fun k => match k with
  | 0 => ("PickupYard", "yard", "LPickupYard$Yard;", true)
  | 1 => ("PickupYard", "trial", "LPickupYard$Trial;", true)
  | 2 => ("PickupYard", "history", "LPickupYard$History;", true)
  | 3 => ("PickupYard", "slots", "[LPickupYard$Yard;", true)
  | 4 => ("PickupYard", "saved", "[Z", true)
  | 5 => ("PickupYard", "pad", "LPickupYard$Pad;", true)
  | _ => ("PickupYard", "list", "[I", true)
def tyX7 : Nat → FieldType := fun k => match k with
  | 0 => .object "PickupYard$Yard"
  | 1 => .object "PickupYard$Trial"
  | 2 => .object "PickupYard$History"
  | 3 => .array (.object "PickupYard$Yard")
  | 4 => .array .boolean
  | 5 => .object "PickupYard$Pad"
  | _ => .array .int
abbrev wsX70 : List Cond := u_ws RX7 TX7 7
theorem nmX7 : ∀ a, a < 7 → ∀ b, b < 7 → a ≠ b → (TX7 a).2.1 ≠ (TX7 b).2.1 := by decide +kernel
theorem tyX7_ok : ∀ k, k < 7 → parseFieldDescriptor (TX7 k).2.2.1 = some (tyX7 k) := by decide +kernel
abbrev cX7_init : ByteArray := prog_1_method_1_code
def yX7_init : MethodName := ⟨RX7, "<init>", "()V"⟩
abbrev cX7_set : ByteArray := prog_1_method_2_code
def yX7_set : MethodName := ⟨RX7, "set", "(II)I"⟩
abbrev cX7_track : ByteArray := prog_1_method_3_code
def yX7_track : MethodName := ⟨RX7, "track", "(I)I"⟩
abbrev cX7_wagon : ByteArray := prog_1_method_4_code
def yX7_wagon : MethodName := ⟨RX7, "wagon", "(II)I"⟩
abbrev cX7_block : ByteArray := prog_1_method_5_code
def yX7_block : MethodName := ⟨RX7, "block", "(II)I"⟩
abbrev cX7_pull : ByteArray := prog_1_method_6_code
def yX7_pull : MethodName := ⟨RX7, "pull", "(II)I"⟩
abbrev cX7_push : ByteArray := prog_1_method_7_code
def yX7_push : MethodName := ⟨RX7, "push", "(II)I"⟩
abbrev cX7_round : ByteArray := prog_1_method_8_code
def yX7_round : MethodName := ⟨RX7, "round", "()I"⟩
abbrev cX7_pass : ByteArray := prog_1_method_9_code
def yX7_pass : MethodName := ⟨RX7, "pass", "(I)I"⟩
abbrev cX7_train : ByteArray := prog_1_method_10_code
def yX7_train : MethodName := ⟨RX7, "train", "(JI)I"⟩
abbrev cX7_readList : ByteArray := prog_1_method_11_code
def yX7_readList : MethodName := ⟨RX7, "readList", "(J)I"⟩
abbrev cX7_leave : ByteArray := prog_1_method_13_code
def yX7_leave : MethodName := ⟨RX7, "leave", "(I)I"⟩
abbrev cX7_ofTrack : ByteArray := prog_1_method_14_code
def yX7_ofTrack : MethodName := ⟨RX7, "ofTrack", "(II)I"⟩
abbrev cX7_at : ByteArray := prog_1_method_15_code
def yX7_at : MethodName := ⟨RX7, "at", "(II)I"⟩
abbrev cX7_ofWagon : ByteArray := prog_1_method_16_code
def yX7_ofWagon : MethodName := ⟨RX7, "ofWagon", "(II)I"⟩
abbrev cX7_ofTrain : ByteArray := prog_1_method_17_code
def yX7_ofTrain : MethodName := ⟨RX7, "ofTrain", "(II)I"⟩
abbrev cX7_count : ByteArray := prog_1_method_18_code
def yX7_count : MethodName := ⟨RX7, "count", "(I)I"⟩
abbrev cX7_freeFrom : ByteArray := prog_1_method_19_code
def yX7_freeFrom : MethodName := ⟨RX7, "freeFrom", "(I)I"⟩
abbrev cX7_straight : ByteArray := prog_1_method_20_code
def yX7_straight : MethodName := ⟨RX7, "straight", "(I)I"⟩
abbrev cX7_pulls : ByteArray := prog_1_method_21_code
def yX7_pulls : MethodName := ⟨RX7, "pulls", "(I)I"⟩
abbrev cX7_wouldLeave : ByteArray := prog_1_method_22_code
def yX7_wouldLeave : MethodName := ⟨RX7, "wouldLeave", "(I)I"⟩
abbrev cX7_moves : ByteArray := prog_1_method_23_code
def yX7_moves : MethodName := ⟨RX7, "moves", "(I)I"⟩
abbrev cX7_roomFor : ByteArray := prog_1_method_24_code
def yX7_roomFor : MethodName := ⟨RX7, "roomFor", "()I"⟩
def RX8 : String := "PickupYardModel"
def TX8 : u_T := fun k => match k with
  | _ => ("", "", "", false)
def tyX8 : Nat → FieldType := fun k => match k with
  | _ => .int
abbrev wsX80 : List Cond := u_ws RX8 TX8 0
theorem nmX8 : ∀ a, a < 0 → ∀ b, b < 0 → a ≠ b → (TX8 a).2.1 ≠ (TX8 b).2.1 := by decide +kernel
theorem tyX8_ok : ∀ k, k < 0 → parseFieldDescriptor (TX8 k).2.2.1 = some (tyX8 k) := by decide +kernel
def RL : String := "PickupYardLaw"
abbrev cL_cell : ByteArray := method_2_code
def yL_cell : MethodName := ⟨RL, "cell", "([III)I"⟩
abbrev cL_row : ByteArray := method_3_code
def yL_row : MethodName := ⟨RL, "row", "(LPickupYard;I[I)I"⟩
abbrev cL_lengths : ByteArray := method_4_code
def yL_lengths : MethodName := ⟨RL, "lengths", "(LPickupYard;[III)I"⟩
abbrev cL_agree : ByteArray := method_5_code
def yL_agree : MethodName := ⟨RL, "agree", "(LPickupYard;)Z"⟩
abbrev cL_isTimed : ByteArray := method_6_code
def yL_isTimed : MethodName := ⟨RL, "isTimed", "(LPickupYard;IIIIIII)Z"⟩
abbrev cL_isPulled : ByteArray := method_7_code
def yL_isPulled : MethodName := ⟨RL, "isPulled", "(LPickupYard;II)Z"⟩
abbrev cL_isPushed : ByteArray := method_8_code
def yL_isPushed : MethodName := ⟨RL, "isPushed", "(LPickupYard;II)Z"⟩
abbrev cL_isRound : ByteArray := method_9_code
def yL_isRound : MethodName := ⟨RL, "isRound", "(LPickupYard;)Z"⟩
abbrev cL_isWagon : ByteArray := method_10_code
def yL_isWagon : MethodName := ⟨RL, "isWagon", "(LPickupYard;II)Z"⟩
abbrev cL_isTrain : ByteArray := method_11_code
def yL_isTrain : MethodName := ⟨RL, "isTrain", "(LPickupYard;IIII)Z"⟩
abbrev cL_isLeft : ByteArray := method_12_code
def yL_isLeft : MethodName := ⟨RL, "isLeft", "(LPickupYard;I)Z"⟩
abbrev cL_isPassed : ByteArray := method_13_code
def yL_isPassed : MethodName := ⟨RL, "isPassed", "(LPickupYard;I)Z"⟩
abbrev cL_isAct : ByteArray := method_14_code
def yL_isAct : MethodName := ⟨RL, "isAct", "(LPickupYard;[II)Z"⟩
abbrev cL_isServed : ByteArray := method_15_code
def yL_isServed : MethodName := ⟨RL, "isServed", "(LPickupYard;)Z"⟩
abbrev cL_law : ByteArray := code
def yL_law : MethodName := ⟨RL, "law", "([I)Z"⟩
abbrev vwCl : List vw_C := [(RX0, TX0, 3), (RX1, TX1, 2), (RX2, TX2, 2), (RX3, TX3, 4), (RX4, TX4, 1), (RX5, TX5, 7), (RX6, TX6, 14), (RX7, TX7, 7)]
end
section
theorem dX0_init_0 : decode cX0_init 0 = .ok (.aload_n 0, 1) := by decide +kernel
theorem dX0_init_1 : decode cX0_init 1 = .ok (.invokespecial 3, 3) := by decide +kernel
theorem dX0_init_4 : decode cX0_init 4 = .ok (.aload_n 0, 1) := by decide +kernel
theorem dX0_init_5 : decode cX0_init 5 = .ok (.bipush 10, 2) := by decide +kernel
theorem dX0_init_7 : decode cX0_init 7 = .ok (.newarray .int, 2) := by decide +kernel
theorem dX0_init_9 : decode cX0_init 9 = .ok (.putfield 9, 3) := by decide +kernel
theorem dX0_init_12 : decode cX0_init 12 = .ok (.aload_n 0, 1) := by decide +kernel
theorem dX0_init_13 : decode cX0_init 13 = .ok (.bipush 10, 2) := by decide +kernel
theorem dX0_init_15 : decode cX0_init 15 = .ok (.newarray .int, 2) := by decide +kernel
theorem dX0_init_17 : decode cX0_init 17 = .ok (.putfield 15, 3) := by decide +kernel
theorem dX0_init_20 : decode cX0_init 20 = .ok (.return_, 1) := by decide +kernel
theorem dX0_copyFrom_0 : decode cX0_copyFrom 0 = .ok (.aload_n 0, 1) := by decide +kernel
theorem dX0_copyFrom_1 : decode cX0_copyFrom 1 = .ok (.aload_n 1, 1) := by decide +kernel
theorem dX0_copyFrom_2 : decode cX0_copyFrom 2 = .ok (.getfield 18, 3) := by decide +kernel
theorem dX0_copyFrom_5 : decode cX0_copyFrom 5 = .ok (.putfield 18, 3) := by decide +kernel
theorem dX0_copyFrom_8 : decode cX0_copyFrom 8 = .ok (.aload_n 1, 1) := by decide +kernel
theorem dX0_copyFrom_9 : decode cX0_copyFrom 9 = .ok (.getfield 9, 3) := by decide +kernel
theorem dX0_copyFrom_12 : decode cX0_copyFrom 12 = .ok (.iconst 0, 1) := by decide +kernel
theorem dX0_copyFrom_13 : decode cX0_copyFrom 13 = .ok (.aload_n 0, 1) := by decide +kernel
theorem dX0_copyFrom_14 : decode cX0_copyFrom 14 = .ok (.getfield 9, 3) := by decide +kernel
theorem dX0_copyFrom_17 : decode cX0_copyFrom 17 = .ok (.iconst 0, 1) := by decide +kernel
theorem dX0_copyFrom_18 : decode cX0_copyFrom 18 = .ok (.bipush 10, 2) := by decide +kernel
theorem dX0_copyFrom_20 : decode cX0_copyFrom 20 = .ok (.invokestatic 22, 3) := by decide +kernel
theorem dX0_copyFrom_23 : decode cX0_copyFrom 23 = .ok (.aload_n 1, 1) := by decide +kernel
theorem dX0_copyFrom_24 : decode cX0_copyFrom 24 = .ok (.getfield 15, 3) := by decide +kernel
theorem dX0_copyFrom_27 : decode cX0_copyFrom 27 = .ok (.iconst 0, 1) := by decide +kernel
theorem dX0_copyFrom_28 : decode cX0_copyFrom 28 = .ok (.aload_n 0, 1) := by decide +kernel
theorem dX0_copyFrom_29 : decode cX0_copyFrom 29 = .ok (.getfield 15, 3) := by decide +kernel
theorem dX0_copyFrom_32 : decode cX0_copyFrom 32 = .ok (.iconst 0, 1) := by decide +kernel
theorem dX0_copyFrom_33 : decode cX0_copyFrom 33 = .ok (.bipush 10, 2) := by decide +kernel
theorem dX0_copyFrom_35 : decode cX0_copyFrom 35 = .ok (.invokestatic 22, 3) := by decide +kernel
theorem dX0_copyFrom_38 : decode cX0_copyFrom 38 = .ok (.return_, 1) := by decide +kernel
theorem dX0_add_0 : decode cX0_add 0 = .ok (.aload_n 0, 1) := by decide +kernel
theorem dX0_add_1 : decode cX0_add 1 = .ok (.getfield 9, 3) := by decide +kernel
theorem dX0_add_4 : decode cX0_add 4 = .ok (.aload_n 0, 1) := by decide +kernel
theorem dX0_add_5 : decode cX0_add 5 = .ok (.getfield 18, 3) := by decide +kernel
theorem dX0_add_8 : decode cX0_add 8 = .ok (.iload_n 1, 1) := by decide +kernel
theorem dX0_add_9 : decode cX0_add 9 = .ok (.iastore, 1) := by decide +kernel
theorem dX0_add_10 : decode cX0_add 10 = .ok (.aload_n 0, 1) := by decide +kernel
theorem dX0_add_11 : decode cX0_add 11 = .ok (.getfield 15, 3) := by decide +kernel
theorem dX0_add_14 : decode cX0_add 14 = .ok (.aload_n 0, 1) := by decide +kernel
theorem dX0_add_15 : decode cX0_add 15 = .ok (.getfield 18, 3) := by decide +kernel
theorem dX0_add_18 : decode cX0_add 18 = .ok (.iload_n 2, 1) := by decide +kernel
theorem dX0_add_19 : decode cX0_add 19 = .ok (.iastore, 1) := by decide +kernel
theorem dX0_add_20 : decode cX0_add 20 = .ok (.aload_n 0, 1) := by decide +kernel
theorem dX0_add_21 : decode cX0_add 21 = .ok (.dup, 1) := by decide +kernel
theorem dX0_add_22 : decode cX0_add 22 = .ok (.getfield 18, 3) := by decide +kernel
theorem dX0_add_25 : decode cX0_add 25 = .ok (.iconst 1, 1) := by decide +kernel
theorem dX0_add_26 : decode cX0_add 26 = .ok (.iadd, 1) := by decide +kernel
theorem dX0_add_27 : decode cX0_add 27 = .ok (.putfield 18, 3) := by decide +kernel
theorem dX0_add_30 : decode cX0_add 30 = .ok (.aload_n 0, 1) := by decide +kernel
theorem dX0_add_31 : decode cX0_add 31 = .ok (.getfield 18, 3) := by decide +kernel
theorem dX0_add_34 : decode cX0_add 34 = .ok (.ireturn, 1) := by decide +kernel
theorem dX0_dropEnded_0 : decode cX0_dropEnded 0 = .ok (.iconst 0, 1) := by decide +kernel
theorem dX0_dropEnded_1 : decode cX0_dropEnded 1 = .ok (.istore_n 2, 1) := by decide +kernel
theorem dX0_dropEnded_2 : decode cX0_dropEnded 2 = .ok (.iconst 0, 1) := by decide +kernel
theorem dX0_dropEnded_3 : decode cX0_dropEnded 3 = .ok (.istore_n 3, 1) := by decide +kernel
theorem dX0_dropEnded_4 : decode cX0_dropEnded 4 = .ok (.iload_n 3, 1) := by decide +kernel
theorem dX0_dropEnded_5 : decode cX0_dropEnded 5 = .ok (.aload_n 0, 1) := by decide +kernel
theorem dX0_dropEnded_6 : decode cX0_dropEnded 6 = .ok (.getfield 18, 3) := by decide +kernel
theorem dX0_dropEnded_9 : decode cX0_dropEnded 9 = .ok (.if_icmp .ge 46, 3) := by decide +kernel
theorem dX0_dropEnded_12 : decode cX0_dropEnded 12 = .ok (.aload_n 0, 1) := by decide +kernel
theorem dX0_dropEnded_13 : decode cX0_dropEnded 13 = .ok (.getfield 15, 3) := by decide +kernel
theorem dX0_dropEnded_16 : decode cX0_dropEnded 16 = .ok (.iload_n 3, 1) := by decide +kernel
theorem dX0_dropEnded_17 : decode cX0_dropEnded 17 = .ok (.iaload, 1) := by decide +kernel
theorem dX0_dropEnded_18 : decode cX0_dropEnded 18 = .ok (.iload_n 1, 1) := by decide +kernel
theorem dX0_dropEnded_19 : decode cX0_dropEnded 19 = .ok (.if_icmp .le 30, 3) := by decide +kernel
theorem dX0_dropEnded_22 : decode cX0_dropEnded 22 = .ok (.aload_n 0, 1) := by decide +kernel
theorem dX0_dropEnded_23 : decode cX0_dropEnded 23 = .ok (.getfield 9, 3) := by decide +kernel
theorem dX0_dropEnded_26 : decode cX0_dropEnded 26 = .ok (.iload_n 2, 1) := by decide +kernel
theorem dX0_dropEnded_27 : decode cX0_dropEnded 27 = .ok (.aload_n 0, 1) := by decide +kernel
theorem dX0_dropEnded_28 : decode cX0_dropEnded 28 = .ok (.getfield 9, 3) := by decide +kernel
theorem dX0_dropEnded_31 : decode cX0_dropEnded 31 = .ok (.iload_n 3, 1) := by decide +kernel
theorem dX0_dropEnded_32 : decode cX0_dropEnded 32 = .ok (.iaload, 1) := by decide +kernel
theorem dX0_dropEnded_33 : decode cX0_dropEnded 33 = .ok (.iastore, 1) := by decide +kernel
theorem dX0_dropEnded_34 : decode cX0_dropEnded 34 = .ok (.aload_n 0, 1) := by decide +kernel
theorem dX0_dropEnded_35 : decode cX0_dropEnded 35 = .ok (.getfield 15, 3) := by decide +kernel
theorem dX0_dropEnded_38 : decode cX0_dropEnded 38 = .ok (.iload_n 2, 1) := by decide +kernel
theorem dX0_dropEnded_39 : decode cX0_dropEnded 39 = .ok (.aload_n 0, 1) := by decide +kernel
theorem dX0_dropEnded_40 : decode cX0_dropEnded 40 = .ok (.getfield 15, 3) := by decide +kernel
theorem dX0_dropEnded_43 : decode cX0_dropEnded 43 = .ok (.iload_n 3, 1) := by decide +kernel
theorem dX0_dropEnded_44 : decode cX0_dropEnded 44 = .ok (.iaload, 1) := by decide +kernel
theorem dX0_dropEnded_45 : decode cX0_dropEnded 45 = .ok (.iastore, 1) := by decide +kernel
theorem dX0_dropEnded_46 : decode cX0_dropEnded 46 = .ok (.iinc 2 1, 3) := by decide +kernel
theorem dX0_dropEnded_49 : decode cX0_dropEnded 49 = .ok (.iinc 3 1, 3) := by decide +kernel
theorem dX0_dropEnded_52 : decode cX0_dropEnded 52 = .ok (.goto (-48), 3) := by decide +kernel
theorem dX0_dropEnded_55 : decode cX0_dropEnded 55 = .ok (.aload_n 0, 1) := by decide +kernel
theorem dX0_dropEnded_56 : decode cX0_dropEnded 56 = .ok (.iload_n 2, 1) := by decide +kernel
theorem dX0_dropEnded_57 : decode cX0_dropEnded 57 = .ok (.putfield 18, 3) := by decide +kernel
theorem dX0_dropEnded_60 : decode cX0_dropEnded 60 = .ok (.return_, 1) := by decide +kernel
theorem dX0_firstFree_0 : decode cX0_firstFree 0 = .ok (.iload_n 1, 1) := by decide +kernel
theorem dX0_firstFree_1 : decode cX0_firstFree 1 = .ok (.istore_n 3, 1) := by decide +kernel
theorem dX0_firstFree_2 : decode cX0_firstFree 2 = .ok (.iconst 0, 1) := by decide +kernel
theorem dX0_firstFree_3 : decode cX0_firstFree 3 = .ok (.istore 4, 2) := by decide +kernel
theorem dX0_firstFree_5 : decode cX0_firstFree 5 = .ok (.iload 4, 2) := by decide +kernel
theorem dX0_firstFree_7 : decode cX0_firstFree 7 = .ok (.aload_n 0, 1) := by decide +kernel
theorem dX0_firstFree_8 : decode cX0_firstFree 8 = .ok (.getfield 18, 3) := by decide +kernel
theorem dX0_firstFree_11 : decode cX0_firstFree 11 = .ok (.if_icmp .ge 59, 3) := by decide +kernel
theorem dX0_firstFree_14 : decode cX0_firstFree 14 = .ok (.iconst 0, 1) := by decide +kernel
theorem dX0_firstFree_15 : decode cX0_firstFree 15 = .ok (.istore 5, 2) := by decide +kernel
theorem dX0_firstFree_17 : decode cX0_firstFree 17 = .ok (.iload 5, 2) := by decide +kernel
theorem dX0_firstFree_19 : decode cX0_firstFree 19 = .ok (.aload_n 0, 1) := by decide +kernel
theorem dX0_firstFree_20 : decode cX0_firstFree 20 = .ok (.getfield 18, 3) := by decide +kernel
theorem dX0_firstFree_23 : decode cX0_firstFree 23 = .ok (.if_icmp .ge 41, 3) := by decide +kernel
theorem dX0_firstFree_26 : decode cX0_firstFree 26 = .ok (.aload_n 0, 1) := by decide +kernel
theorem dX0_firstFree_27 : decode cX0_firstFree 27 = .ok (.getfield 9, 3) := by decide +kernel
theorem dX0_firstFree_30 : decode cX0_firstFree 30 = .ok (.iload 5, 2) := by decide +kernel
theorem dX0_firstFree_32 : decode cX0_firstFree 32 = .ok (.iaload, 1) := by decide +kernel
theorem dX0_firstFree_33 : decode cX0_firstFree 33 = .ok (.iload_n 3, 1) := by decide +kernel
theorem dX0_firstFree_34 : decode cX0_firstFree 34 = .ok (.iload_n 2, 1) := by decide +kernel
theorem dX0_firstFree_35 : decode cX0_firstFree 35 = .ok (.iadd, 1) := by decide +kernel
theorem dX0_firstFree_36 : decode cX0_firstFree 36 = .ok (.if_icmp .ge 22, 3) := by decide +kernel
theorem dX0_firstFree_39 : decode cX0_firstFree 39 = .ok (.aload_n 0, 1) := by decide +kernel
theorem dX0_firstFree_40 : decode cX0_firstFree 40 = .ok (.getfield 15, 3) := by decide +kernel
theorem dX0_firstFree_43 : decode cX0_firstFree 43 = .ok (.iload 5, 2) := by decide +kernel
theorem dX0_firstFree_45 : decode cX0_firstFree 45 = .ok (.iaload, 1) := by decide +kernel
theorem dX0_firstFree_46 : decode cX0_firstFree 46 = .ok (.iload_n 3, 1) := by decide +kernel
theorem dX0_firstFree_47 : decode cX0_firstFree 47 = .ok (.if_icmp .le 11, 3) := by decide +kernel
theorem dX0_firstFree_50 : decode cX0_firstFree 50 = .ok (.aload_n 0, 1) := by decide +kernel
theorem dX0_firstFree_51 : decode cX0_firstFree 51 = .ok (.getfield 15, 3) := by decide +kernel
theorem dX0_firstFree_54 : decode cX0_firstFree 54 = .ok (.iload 5, 2) := by decide +kernel
theorem dX0_firstFree_56 : decode cX0_firstFree 56 = .ok (.iaload, 1) := by decide +kernel
theorem dX0_firstFree_57 : decode cX0_firstFree 57 = .ok (.istore_n 3, 1) := by decide +kernel
theorem dX0_firstFree_58 : decode cX0_firstFree 58 = .ok (.iinc 5 1, 3) := by decide +kernel
theorem dX0_firstFree_61 : decode cX0_firstFree 61 = .ok (.goto (-44), 3) := by decide +kernel
theorem dX0_firstFree_64 : decode cX0_firstFree 64 = .ok (.iinc 4 1, 3) := by decide +kernel
theorem dX0_firstFree_67 : decode cX0_firstFree 67 = .ok (.goto (-62), 3) := by decide +kernel
theorem dX0_firstFree_70 : decode cX0_firstFree 70 = .ok (.iload_n 3, 1) := by decide +kernel
theorem dX0_firstFree_71 : decode cX0_firstFree 71 = .ok (.ireturn, 1) := by decide +kernel
theorem dX1_init_0 : decode cX1_init 0 = .ok (.aload_n 0, 1) := by decide +kernel
theorem dX1_init_1 : decode cX1_init 1 = .ok (.invokespecial 3, 3) := by decide +kernel
theorem dX1_init_4 : decode cX1_init 4 = .ok (.aload_n 0, 1) := by decide +kernel
theorem dX1_init_5 : decode cX1_init 5 = .ok (.bipush 7, 2) := by decide +kernel
theorem dX1_init_7 : decode cX1_init 7 = .ok (.anewarray 9, 3) := by decide +kernel
theorem dX1_init_10 : decode cX1_init 10 = .ok (.putfield 11, 3) := by decide +kernel
theorem dX1_init_13 : decode cX1_init 13 = .ok (.iconst 0, 1) := by decide +kernel
theorem dX1_init_14 : decode cX1_init 14 = .ok (.istore_n 1, 1) := by decide +kernel
theorem dX1_init_15 : decode cX1_init 15 = .ok (.iload_n 1, 1) := by decide +kernel
theorem dX1_init_16 : decode cX1_init 16 = .ok (.bipush 6, 2) := by decide +kernel
theorem dX1_init_18 : decode cX1_init 18 = .ok (.if_icmp .gt 22, 3) := by decide +kernel
theorem dX1_init_21 : decode cX1_init 21 = .ok (.aload_n 0, 1) := by decide +kernel
theorem dX1_init_22 : decode cX1_init 22 = .ok (.getfield 11, 3) := by decide +kernel
theorem dX1_init_25 : decode cX1_init 25 = .ok (.iload_n 1, 1) := by decide +kernel
theorem dX1_init_26 : decode cX1_init 26 = .ok (.new 9, 3) := by decide +kernel
theorem dX1_init_29 : decode cX1_init 29 = .ok (.dup, 1) := by decide +kernel
theorem dX1_init_30 : decode cX1_init 30 = .ok (.invokespecial 17, 3) := by decide +kernel
theorem dX1_init_33 : decode cX1_init 33 = .ok (.aastore, 1) := by decide +kernel
theorem dX1_init_34 : decode cX1_init 34 = .ok (.iinc 1 1, 3) := by decide +kernel
theorem dX1_init_37 : decode cX1_init 37 = .ok (.goto (-22), 3) := by decide +kernel
theorem dX1_init_40 : decode cX1_init 40 = .ok (.return_, 1) := by decide +kernel
theorem dX1_note_0 : decode cX1_note 0 = .ok (.aload_n 0, 1) := by decide +kernel
theorem dX1_note_1 : decode cX1_note 1 = .ok (.getfield 11, 3) := by decide +kernel
theorem dX1_note_4 : decode cX1_note 4 = .ok (.aload_n 0, 1) := by decide +kernel
theorem dX1_note_5 : decode cX1_note 5 = .ok (.getfield 18, 3) := by decide +kernel
theorem dX1_note_8 : decode cX1_note 8 = .ok (.aaload, 1) := by decide +kernel
theorem dX1_note_9 : decode cX1_note 9 = .ok (.aload_n 1, 1) := by decide +kernel
theorem dX1_note_10 : decode cX1_note 10 = .ok (.invokevirtual 22, 3) := by decide +kernel
theorem dX1_note_13 : decode cX1_note 13 = .ok (.return_, 1) := by decide +kernel
theorem dX1_kept_0 : decode cX1_kept 0 = .ok (.iload_n 1, 1) := by decide +kernel
theorem dX1_kept_1 : decode cX1_kept 1 = .ok (.ifCond .ge 5, 3) := by decide +kernel
theorem dX1_kept_4 : decode cX1_kept 4 = .ok (.iload_n 1, 1) := by decide +kernel
theorem dX1_kept_5 : decode cX1_kept 5 = .ok (.ireturn, 1) := by decide +kernel
theorem dX1_kept_6 : decode cX1_kept 6 = .ok (.aload_n 0, 1) := by decide +kernel
theorem dX1_kept_7 : decode cX1_kept 7 = .ok (.getfield 18, 3) := by decide +kernel
theorem dX1_kept_10 : decode cX1_kept 10 = .ok (.bipush 6, 2) := by decide +kernel
theorem dX1_kept_12 : decode cX1_kept 12 = .ok (.if_icmp .ge 16, 3) := by decide +kernel
theorem dX1_kept_15 : decode cX1_kept 15 = .ok (.aload_n 0, 1) := by decide +kernel
theorem dX1_kept_16 : decode cX1_kept 16 = .ok (.dup, 1) := by decide +kernel
theorem dX1_kept_17 : decode cX1_kept 17 = .ok (.getfield 18, 3) := by decide +kernel
theorem dX1_kept_20 : decode cX1_kept 20 = .ok (.iconst 1, 1) := by decide +kernel
theorem dX1_kept_21 : decode cX1_kept 21 = .ok (.iadd, 1) := by decide +kernel
theorem dX1_kept_22 : decode cX1_kept 22 = .ok (.putfield 18, 3) := by decide +kernel
theorem dX1_kept_25 : decode cX1_kept 25 = .ok (.goto 7, 3) := by decide +kernel
theorem dX1_kept_28 : decode cX1_kept 28 = .ok (.aload_n 0, 1) := by decide +kernel
theorem dX1_kept_29 : decode cX1_kept 29 = .ok (.invokevirtual 26, 3) := by decide +kernel
theorem dX1_kept_32 : decode cX1_kept 32 = .ok (.iload_n 1, 1) := by decide +kernel
theorem dX1_kept_33 : decode cX1_kept 33 = .ok (.ireturn, 1) := by decide +kernel
theorem dX1_dropOldest_0 : decode cX1_dropOldest 0 = .ok (.aload_n 0, 1) := by decide +kernel
theorem dX1_dropOldest_1 : decode cX1_dropOldest 1 = .ok (.getfield 11, 3) := by decide +kernel
theorem dX1_dropOldest_4 : decode cX1_dropOldest 4 = .ok (.iconst 0, 1) := by decide +kernel
theorem dX1_dropOldest_5 : decode cX1_dropOldest 5 = .ok (.aaload, 1) := by decide +kernel
theorem dX1_dropOldest_6 : decode cX1_dropOldest 6 = .ok (.astore_n 1, 1) := by decide +kernel
theorem dX1_dropOldest_7 : decode cX1_dropOldest 7 = .ok (.iconst 0, 1) := by decide +kernel
theorem dX1_dropOldest_8 : decode cX1_dropOldest 8 = .ok (.istore_n 2, 1) := by decide +kernel
theorem dX1_dropOldest_9 : decode cX1_dropOldest 9 = .ok (.iload_n 2, 1) := by decide +kernel
theorem dX1_dropOldest_10 : decode cX1_dropOldest 10 = .ok (.bipush 6, 2) := by decide +kernel
theorem dX1_dropOldest_12 : decode cX1_dropOldest 12 = .ok (.if_icmp .ge 23, 3) := by decide +kernel
theorem dX1_dropOldest_15 : decode cX1_dropOldest 15 = .ok (.aload_n 0, 1) := by decide +kernel
theorem dX1_dropOldest_16 : decode cX1_dropOldest 16 = .ok (.getfield 11, 3) := by decide +kernel
theorem dX1_dropOldest_19 : decode cX1_dropOldest 19 = .ok (.iload_n 2, 1) := by decide +kernel
theorem dX1_dropOldest_20 : decode cX1_dropOldest 20 = .ok (.aload_n 0, 1) := by decide +kernel
theorem dX1_dropOldest_21 : decode cX1_dropOldest 21 = .ok (.getfield 11, 3) := by decide +kernel
theorem dX1_dropOldest_24 : decode cX1_dropOldest 24 = .ok (.iload_n 2, 1) := by decide +kernel
theorem dX1_dropOldest_25 : decode cX1_dropOldest 25 = .ok (.iconst 1, 1) := by decide +kernel
theorem dX1_dropOldest_26 : decode cX1_dropOldest 26 = .ok (.iadd, 1) := by decide +kernel
theorem dX1_dropOldest_27 : decode cX1_dropOldest 27 = .ok (.aaload, 1) := by decide +kernel
theorem dX1_dropOldest_28 : decode cX1_dropOldest 28 = .ok (.aastore, 1) := by decide +kernel
theorem dX1_dropOldest_29 : decode cX1_dropOldest 29 = .ok (.iinc 2 1, 3) := by decide +kernel
theorem dX1_dropOldest_32 : decode cX1_dropOldest 32 = .ok (.goto (-23), 3) := by decide +kernel
theorem dX1_dropOldest_35 : decode cX1_dropOldest 35 = .ok (.aload_n 0, 1) := by decide +kernel
theorem dX1_dropOldest_36 : decode cX1_dropOldest 36 = .ok (.getfield 11, 3) := by decide +kernel
theorem dX1_dropOldest_39 : decode cX1_dropOldest 39 = .ok (.bipush 6, 2) := by decide +kernel
theorem dX1_dropOldest_41 : decode cX1_dropOldest 41 = .ok (.aload_n 1, 1) := by decide +kernel
theorem dX1_dropOldest_42 : decode cX1_dropOldest 42 = .ok (.aastore, 1) := by decide +kernel
theorem dX1_dropOldest_43 : decode cX1_dropOldest 43 = .ok (.return_, 1) := by decide +kernel
theorem dX2_init_0 : decode cX2_init 0 = .ok (.aload_n 0, 1) := by decide +kernel
theorem dX2_init_1 : decode cX2_init 1 = .ok (.invokespecial 3, 3) := by decide +kernel
theorem dX2_init_4 : decode cX2_init 4 = .ok (.aload_n 0, 1) := by decide +kernel
theorem dX2_init_5 : decode cX2_init 5 = .ok (.bipush 80, 2) := by decide +kernel
theorem dX2_init_7 : decode cX2_init 7 = .ok (.newarray .char, 2) := by decide +kernel
theorem dX2_init_9 : decode cX2_init 9 = .ok (.putfield 9, 3) := by decide +kernel
theorem dX2_init_12 : decode cX2_init 12 = .ok (.return_, 1) := by decide +kernel
theorem dX3_init_0 : decode cX3_init 0 = .ok (.aload_n 0, 1) := by decide +kernel
theorem dX3_init_1 : decode cX3_init 1 = .ok (.invokespecial 3, 3) := by decide +kernel
theorem dX3_init_4 : decode cX3_init 4 = .ok (.aload_n 0, 1) := by decide +kernel
theorem dX3_init_5 : decode cX3_init 5 = .ok (.bipush 8, 2) := by decide +kernel
theorem dX3_init_7 : decode cX3_init 7 = .ok (.newarray .int, 2) := by decide +kernel
theorem dX3_init_9 : decode cX3_init 9 = .ok (.putfield 9, 3) := by decide +kernel
theorem dX3_init_12 : decode cX3_init 12 = .ok (.aload_n 0, 1) := by decide +kernel
theorem dX3_init_13 : decode cX3_init 13 = .ok (.bipush 8, 2) := by decide +kernel
theorem dX3_init_15 : decode cX3_init 15 = .ok (.newarray .int, 2) := by decide +kernel
theorem dX3_init_17 : decode cX3_init 17 = .ok (.putfield 15, 3) := by decide +kernel
theorem dX3_init_20 : decode cX3_init 20 = .ok (.aload_n 0, 1) := by decide +kernel
theorem dX3_init_21 : decode cX3_init 21 = .ok (.bipush 64, 2) := by decide +kernel
theorem dX3_init_23 : decode cX3_init 23 = .ok (.newarray .int, 2) := by decide +kernel
theorem dX3_init_25 : decode cX3_init 25 = .ok (.putfield 18, 3) := by decide +kernel
theorem dX3_init_28 : decode cX3_init 28 = .ok (.return_, 1) := by decide +kernel
theorem dX3_copyFrom_0 : decode cX3_copyFrom 0 = .ok (.aload_n 0, 1) := by decide +kernel
theorem dX3_copyFrom_1 : decode cX3_copyFrom 1 = .ok (.aload_n 1, 1) := by decide +kernel
theorem dX3_copyFrom_2 : decode cX3_copyFrom 2 = .ok (.getfield 21, 3) := by decide +kernel
theorem dX3_copyFrom_5 : decode cX3_copyFrom 5 = .ok (.putfield 21, 3) := by decide +kernel
theorem dX3_copyFrom_8 : decode cX3_copyFrom 8 = .ok (.aload_n 1, 1) := by decide +kernel
theorem dX3_copyFrom_9 : decode cX3_copyFrom 9 = .ok (.getfield 9, 3) := by decide +kernel
theorem dX3_copyFrom_12 : decode cX3_copyFrom 12 = .ok (.iconst 0, 1) := by decide +kernel
theorem dX3_copyFrom_13 : decode cX3_copyFrom 13 = .ok (.aload_n 0, 1) := by decide +kernel
theorem dX3_copyFrom_14 : decode cX3_copyFrom 14 = .ok (.getfield 9, 3) := by decide +kernel
theorem dX3_copyFrom_17 : decode cX3_copyFrom 17 = .ok (.iconst 0, 1) := by decide +kernel
theorem dX3_copyFrom_18 : decode cX3_copyFrom 18 = .ok (.bipush 8, 2) := by decide +kernel
theorem dX3_copyFrom_20 : decode cX3_copyFrom 20 = .ok (.invokestatic 25, 3) := by decide +kernel
theorem dX3_copyFrom_23 : decode cX3_copyFrom 23 = .ok (.aload_n 1, 1) := by decide +kernel
theorem dX3_copyFrom_24 : decode cX3_copyFrom 24 = .ok (.getfield 15, 3) := by decide +kernel
theorem dX3_copyFrom_27 : decode cX3_copyFrom 27 = .ok (.iconst 0, 1) := by decide +kernel
theorem dX3_copyFrom_28 : decode cX3_copyFrom 28 = .ok (.aload_n 0, 1) := by decide +kernel
theorem dX3_copyFrom_29 : decode cX3_copyFrom 29 = .ok (.getfield 15, 3) := by decide +kernel
theorem dX3_copyFrom_32 : decode cX3_copyFrom 32 = .ok (.iconst 0, 1) := by decide +kernel
theorem dX3_copyFrom_33 : decode cX3_copyFrom 33 = .ok (.bipush 8, 2) := by decide +kernel
theorem dX3_copyFrom_35 : decode cX3_copyFrom 35 = .ok (.invokestatic 25, 3) := by decide +kernel
theorem dX3_copyFrom_38 : decode cX3_copyFrom 38 = .ok (.aload_n 1, 1) := by decide +kernel
theorem dX3_copyFrom_39 : decode cX3_copyFrom 39 = .ok (.getfield 18, 3) := by decide +kernel
theorem dX3_copyFrom_42 : decode cX3_copyFrom 42 = .ok (.iconst 0, 1) := by decide +kernel
theorem dX3_copyFrom_43 : decode cX3_copyFrom 43 = .ok (.aload_n 0, 1) := by decide +kernel
theorem dX3_copyFrom_44 : decode cX3_copyFrom 44 = .ok (.getfield 18, 3) := by decide +kernel
theorem dX3_copyFrom_47 : decode cX3_copyFrom 47 = .ok (.iconst 0, 1) := by decide +kernel
theorem dX3_copyFrom_48 : decode cX3_copyFrom 48 = .ok (.bipush 64, 2) := by decide +kernel
theorem dX3_copyFrom_50 : decode cX3_copyFrom 50 = .ok (.invokestatic 25, 3) := by decide +kernel
theorem dX3_copyFrom_53 : decode cX3_copyFrom 53 = .ok (.return_, 1) := by decide +kernel
theorem dX3_has_0 : decode cX3_has 0 = .ok (.iload_n 1, 1) := by decide +kernel
theorem dX3_has_1 : decode cX3_has 1 = .ok (.ifCond .lt 15, 3) := by decide +kernel
theorem dX3_has_4 : decode cX3_has 4 = .ok (.iload_n 1, 1) := by decide +kernel
theorem dX3_has_5 : decode cX3_has 5 = .ok (.aload_n 0, 1) := by decide +kernel
theorem dX3_has_6 : decode cX3_has 6 = .ok (.getfield 21, 3) := by decide +kernel
theorem dX3_has_9 : decode cX3_has 9 = .ok (.if_icmp .ge 7, 3) := by decide +kernel
theorem dX3_has_12 : decode cX3_has 12 = .ok (.iconst 1, 1) := by decide +kernel
theorem dX3_has_13 : decode cX3_has 13 = .ok (.goto 4, 3) := by decide +kernel
theorem dX3_has_16 : decode cX3_has 16 = .ok (.iconst 0, 1) := by decide +kernel
theorem dX3_has_17 : decode cX3_has 17 = .ok (.ireturn, 1) := by decide +kernel
theorem dX3_sizeOf_0 : decode cX3_sizeOf 0 = .ok (.aload_n 0, 1) := by decide +kernel
theorem dX3_sizeOf_1 : decode cX3_sizeOf 1 = .ok (.iload_n 1, 1) := by decide +kernel
theorem dX3_sizeOf_2 : decode cX3_sizeOf 2 = .ok (.invokevirtual 31, 3) := by decide +kernel
theorem dX3_sizeOf_5 : decode cX3_sizeOf 5 = .ok (.ifCond .eq 12, 3) := by decide +kernel
theorem dX3_sizeOf_8 : decode cX3_sizeOf 8 = .ok (.aload_n 0, 1) := by decide +kernel
theorem dX3_sizeOf_9 : decode cX3_sizeOf 9 = .ok (.getfield 15, 3) := by decide +kernel
theorem dX3_sizeOf_12 : decode cX3_sizeOf 12 = .ok (.iload_n 1, 1) := by decide +kernel
theorem dX3_sizeOf_13 : decode cX3_sizeOf 13 = .ok (.iaload, 1) := by decide +kernel
theorem dX3_sizeOf_14 : decode cX3_sizeOf 14 = .ok (.goto 4, 3) := by decide +kernel
theorem dX3_sizeOf_17 : decode cX3_sizeOf 17 = .ok (.iconst 0, 1) := by decide +kernel
theorem dX3_sizeOf_18 : decode cX3_sizeOf 18 = .ok (.ireturn, 1) := by decide +kernel
theorem dX3_wagonOf_0 : decode cX3_wagonOf 0 = .ok (.aload_n 0, 1) := by decide +kernel
theorem dX3_wagonOf_1 : decode cX3_wagonOf 1 = .ok (.iload_n 1, 1) := by decide +kernel
theorem dX3_wagonOf_2 : decode cX3_wagonOf 2 = .ok (.invokevirtual 31, 3) := by decide +kernel
theorem dX3_wagonOf_5 : decode cX3_wagonOf 5 = .ok (.ifCond .eq 21, 3) := by decide +kernel
theorem dX3_wagonOf_8 : decode cX3_wagonOf 8 = .ok (.iload_n 2, 1) := by decide +kernel
theorem dX3_wagonOf_9 : decode cX3_wagonOf 9 = .ok (.ifCond .lt 17, 3) := by decide +kernel
theorem dX3_wagonOf_12 : decode cX3_wagonOf 12 = .ok (.iload_n 2, 1) := by decide +kernel
theorem dX3_wagonOf_13 : decode cX3_wagonOf 13 = .ok (.aload_n 0, 1) := by decide +kernel
theorem dX3_wagonOf_14 : decode cX3_wagonOf 14 = .ok (.getfield 15, 3) := by decide +kernel
theorem dX3_wagonOf_17 : decode cX3_wagonOf 17 = .ok (.iload_n 1, 1) := by decide +kernel
theorem dX3_wagonOf_18 : decode cX3_wagonOf 18 = .ok (.iaload, 1) := by decide +kernel
theorem dX3_wagonOf_19 : decode cX3_wagonOf 19 = .ok (.if_icmp .ge 7, 3) := by decide +kernel
theorem dX3_wagonOf_22 : decode cX3_wagonOf 22 = .ok (.iconst 1, 1) := by decide +kernel
theorem dX3_wagonOf_23 : decode cX3_wagonOf 23 = .ok (.goto 4, 3) := by decide +kernel
theorem dX3_wagonOf_26 : decode cX3_wagonOf 26 = .ok (.iconst 0, 1) := by decide +kernel
theorem dX3_wagonOf_27 : decode cX3_wagonOf 27 = .ok (.istore_n 3, 1) := by decide +kernel
theorem dX3_wagonOf_28 : decode cX3_wagonOf 28 = .ok (.iload_n 3, 1) := by decide +kernel
theorem dX3_wagonOf_29 : decode cX3_wagonOf 29 = .ok (.ifCond .eq 17, 3) := by decide +kernel
theorem dX3_wagonOf_32 : decode cX3_wagonOf 32 = .ok (.aload_n 0, 1) := by decide +kernel
theorem dX3_wagonOf_33 : decode cX3_wagonOf 33 = .ok (.getfield 18, 3) := by decide +kernel
theorem dX3_wagonOf_36 : decode cX3_wagonOf 36 = .ok (.iload_n 1, 1) := by decide +kernel
theorem dX3_wagonOf_37 : decode cX3_wagonOf 37 = .ok (.bipush 8, 2) := by decide +kernel
theorem dX3_wagonOf_39 : decode cX3_wagonOf 39 = .ok (.imul, 1) := by decide +kernel
theorem dX3_wagonOf_40 : decode cX3_wagonOf 40 = .ok (.iload_n 2, 1) := by decide +kernel
theorem dX3_wagonOf_41 : decode cX3_wagonOf 41 = .ok (.iadd, 1) := by decide +kernel
theorem dX3_wagonOf_42 : decode cX3_wagonOf 42 = .ok (.iaload, 1) := by decide +kernel
theorem dX3_wagonOf_43 : decode cX3_wagonOf 43 = .ok (.goto 5, 3) := by decide +kernel
theorem dX3_wagonOf_46 : decode cX3_wagonOf 46 = .ok (.bipush (-6), 2) := by decide +kernel
theorem dX3_wagonOf_48 : decode cX3_wagonOf 48 = .ok (.ireturn, 1) := by decide +kernel
theorem dX3_trainOf_0 : decode cX3_trainOf 0 = .ok (.iconst 0, 1) := by decide +kernel
theorem dX3_trainOf_1 : decode cX3_trainOf 1 = .ok (.istore_n 2, 1) := by decide +kernel
theorem dX3_trainOf_2 : decode cX3_trainOf 2 = .ok (.iload_n 2, 1) := by decide +kernel
theorem dX3_trainOf_3 : decode cX3_trainOf 3 = .ok (.aload_n 0, 1) := by decide +kernel
theorem dX3_trainOf_4 : decode cX3_trainOf 4 = .ok (.getfield 21, 3) := by decide +kernel
theorem dX3_trainOf_7 : decode cX3_trainOf 7 = .ok (.if_icmp .ge 44, 3) := by decide +kernel
theorem dX3_trainOf_10 : decode cX3_trainOf 10 = .ok (.iconst 0, 1) := by decide +kernel
theorem dX3_trainOf_11 : decode cX3_trainOf 11 = .ok (.istore_n 3, 1) := by decide +kernel
theorem dX3_trainOf_12 : decode cX3_trainOf 12 = .ok (.iload_n 3, 1) := by decide +kernel
theorem dX3_trainOf_13 : decode cX3_trainOf 13 = .ok (.aload_n 0, 1) := by decide +kernel
theorem dX3_trainOf_14 : decode cX3_trainOf 14 = .ok (.getfield 15, 3) := by decide +kernel
theorem dX3_trainOf_17 : decode cX3_trainOf 17 = .ok (.iload_n 2, 1) := by decide +kernel
theorem dX3_trainOf_18 : decode cX3_trainOf 18 = .ok (.iaload, 1) := by decide +kernel
theorem dX3_trainOf_19 : decode cX3_trainOf 19 = .ok (.if_icmp .ge 26, 3) := by decide +kernel
theorem dX3_trainOf_22 : decode cX3_trainOf 22 = .ok (.aload_n 0, 1) := by decide +kernel
theorem dX3_trainOf_23 : decode cX3_trainOf 23 = .ok (.getfield 18, 3) := by decide +kernel
theorem dX3_trainOf_26 : decode cX3_trainOf 26 = .ok (.iload_n 2, 1) := by decide +kernel
theorem dX3_trainOf_27 : decode cX3_trainOf 27 = .ok (.bipush 8, 2) := by decide +kernel
theorem dX3_trainOf_29 : decode cX3_trainOf 29 = .ok (.imul, 1) := by decide +kernel
theorem dX3_trainOf_30 : decode cX3_trainOf 30 = .ok (.iload_n 3, 1) := by decide +kernel
theorem dX3_trainOf_31 : decode cX3_trainOf 31 = .ok (.iadd, 1) := by decide +kernel
theorem dX3_trainOf_32 : decode cX3_trainOf 32 = .ok (.iaload, 1) := by decide +kernel
theorem dX3_trainOf_33 : decode cX3_trainOf 33 = .ok (.iload_n 1, 1) := by decide +kernel
theorem dX3_trainOf_34 : decode cX3_trainOf 34 = .ok (.if_icmp .ne 5, 3) := by decide +kernel
theorem dX3_trainOf_37 : decode cX3_trainOf 37 = .ok (.iload_n 2, 1) := by decide +kernel
theorem dX3_trainOf_38 : decode cX3_trainOf 38 = .ok (.ireturn, 1) := by decide +kernel
theorem dX3_trainOf_39 : decode cX3_trainOf 39 = .ok (.iinc 3 1, 3) := by decide +kernel
theorem dX3_trainOf_42 : decode cX3_trainOf 42 = .ok (.goto (-30), 3) := by decide +kernel
theorem dX3_trainOf_45 : decode cX3_trainOf 45 = .ok (.iinc 2 1, 3) := by decide +kernel
theorem dX3_trainOf_48 : decode cX3_trainOf 48 = .ok (.goto (-46), 3) := by decide +kernel
theorem dX3_trainOf_51 : decode cX3_trainOf 51 = .ok (.bipush (-6), 2) := by decide +kernel
theorem dX3_trainOf_53 : decode cX3_trainOf 53 = .ok (.ireturn, 1) := by decide +kernel
theorem dX3_add_0 : decode cX3_add 0 = .ok (.aload_n 0, 1) := by decide +kernel
theorem dX3_add_1 : decode cX3_add 1 = .ok (.getfield 9, 3) := by decide +kernel
theorem dX3_add_4 : decode cX3_add 4 = .ok (.aload_n 0, 1) := by decide +kernel
theorem dX3_add_5 : decode cX3_add 5 = .ok (.getfield 21, 3) := by decide +kernel
theorem dX3_add_8 : decode cX3_add 8 = .ok (.iload_n 3, 1) := by decide +kernel
theorem dX3_add_9 : decode cX3_add 9 = .ok (.iastore, 1) := by decide +kernel
theorem dX3_add_10 : decode cX3_add 10 = .ok (.aload_n 0, 1) := by decide +kernel
theorem dX3_add_11 : decode cX3_add 11 = .ok (.getfield 15, 3) := by decide +kernel
theorem dX3_add_14 : decode cX3_add 14 = .ok (.aload_n 0, 1) := by decide +kernel
theorem dX3_add_15 : decode cX3_add 15 = .ok (.getfield 21, 3) := by decide +kernel
theorem dX3_add_18 : decode cX3_add 18 = .ok (.iload_n 2, 1) := by decide +kernel
theorem dX3_add_19 : decode cX3_add 19 = .ok (.iastore, 1) := by decide +kernel
theorem dX3_add_20 : decode cX3_add 20 = .ok (.aload_n 1, 1) := by decide +kernel
theorem dX3_add_21 : decode cX3_add 21 = .ok (.iconst 0, 1) := by decide +kernel
theorem dX3_add_22 : decode cX3_add 22 = .ok (.aload_n 0, 1) := by decide +kernel
theorem dX3_add_23 : decode cX3_add 23 = .ok (.getfield 18, 3) := by decide +kernel
theorem dX3_add_26 : decode cX3_add 26 = .ok (.aload_n 0, 1) := by decide +kernel
theorem dX3_add_27 : decode cX3_add 27 = .ok (.getfield 21, 3) := by decide +kernel
theorem dX3_add_30 : decode cX3_add 30 = .ok (.bipush 8, 2) := by decide +kernel
theorem dX3_add_32 : decode cX3_add 32 = .ok (.imul, 1) := by decide +kernel
theorem dX3_add_33 : decode cX3_add 33 = .ok (.iload_n 2, 1) := by decide +kernel
theorem dX3_add_34 : decode cX3_add 34 = .ok (.invokestatic 25, 3) := by decide +kernel
theorem dX3_add_37 : decode cX3_add 37 = .ok (.aload_n 0, 1) := by decide +kernel
theorem dX3_add_38 : decode cX3_add 38 = .ok (.dup, 1) := by decide +kernel
theorem dX3_add_39 : decode cX3_add 39 = .ok (.getfield 21, 3) := by decide +kernel
theorem dX3_add_42 : decode cX3_add 42 = .ok (.iconst 1, 1) := by decide +kernel
theorem dX3_add_43 : decode cX3_add 43 = .ok (.iadd, 1) := by decide +kernel
theorem dX3_add_44 : decode cX3_add 44 = .ok (.putfield 21, 3) := by decide +kernel
theorem dX3_add_47 : decode cX3_add 47 = .ok (.aload_n 0, 1) := by decide +kernel
theorem dX3_add_48 : decode cX3_add 48 = .ok (.getfield 21, 3) := by decide +kernel
theorem dX3_add_51 : decode cX3_add 51 = .ok (.iconst 1, 1) := by decide +kernel
theorem dX3_add_52 : decode cX3_add 52 = .ok (.isub, 1) := by decide +kernel
theorem dX3_add_53 : decode cX3_add 53 = .ok (.ireturn, 1) := by decide +kernel
theorem dX3_remove_0 : decode cX3_remove 0 = .ok (.aload_n 0, 1) := by decide +kernel
theorem dX3_remove_1 : decode cX3_remove 1 = .ok (.dup, 1) := by decide +kernel
theorem dX3_remove_2 : decode cX3_remove 2 = .ok (.getfield 21, 3) := by decide +kernel
theorem dX3_remove_5 : decode cX3_remove 5 = .ok (.iconst 1, 1) := by decide +kernel
theorem dX3_remove_6 : decode cX3_remove 6 = .ok (.isub, 1) := by decide +kernel
theorem dX3_remove_7 : decode cX3_remove 7 = .ok (.putfield 21, 3) := by decide +kernel
theorem dX3_remove_10 : decode cX3_remove 10 = .ok (.iload_n 1, 1) := by decide +kernel
theorem dX3_remove_11 : decode cX3_remove 11 = .ok (.istore_n 2, 1) := by decide +kernel
theorem dX3_remove_12 : decode cX3_remove 12 = .ok (.iload_n 2, 1) := by decide +kernel
theorem dX3_remove_13 : decode cX3_remove 13 = .ok (.aload_n 0, 1) := by decide +kernel
theorem dX3_remove_14 : decode cX3_remove 14 = .ok (.getfield 21, 3) := by decide +kernel
theorem dX3_remove_17 : decode cX3_remove 17 = .ok (.if_icmp .ge 60, 3) := by decide +kernel
theorem dX3_remove_20 : decode cX3_remove 20 = .ok (.aload_n 0, 1) := by decide +kernel
theorem dX3_remove_21 : decode cX3_remove 21 = .ok (.getfield 9, 3) := by decide +kernel
theorem dX3_remove_24 : decode cX3_remove 24 = .ok (.iload_n 2, 1) := by decide +kernel
theorem dX3_remove_25 : decode cX3_remove 25 = .ok (.aload_n 0, 1) := by decide +kernel
theorem dX3_remove_26 : decode cX3_remove 26 = .ok (.getfield 9, 3) := by decide +kernel
theorem dX3_remove_29 : decode cX3_remove 29 = .ok (.iload_n 2, 1) := by decide +kernel
theorem dX3_remove_30 : decode cX3_remove 30 = .ok (.iconst 1, 1) := by decide +kernel
theorem dX3_remove_31 : decode cX3_remove 31 = .ok (.iadd, 1) := by decide +kernel
theorem dX3_remove_32 : decode cX3_remove 32 = .ok (.iaload, 1) := by decide +kernel
theorem dX3_remove_33 : decode cX3_remove 33 = .ok (.iastore, 1) := by decide +kernel
theorem dX3_remove_34 : decode cX3_remove 34 = .ok (.aload_n 0, 1) := by decide +kernel
theorem dX3_remove_35 : decode cX3_remove 35 = .ok (.getfield 15, 3) := by decide +kernel
theorem dX3_remove_38 : decode cX3_remove 38 = .ok (.iload_n 2, 1) := by decide +kernel
theorem dX3_remove_39 : decode cX3_remove 39 = .ok (.aload_n 0, 1) := by decide +kernel
theorem dX3_remove_40 : decode cX3_remove 40 = .ok (.getfield 15, 3) := by decide +kernel
theorem dX3_remove_43 : decode cX3_remove 43 = .ok (.iload_n 2, 1) := by decide +kernel
theorem dX3_remove_44 : decode cX3_remove 44 = .ok (.iconst 1, 1) := by decide +kernel
theorem dX3_remove_45 : decode cX3_remove 45 = .ok (.iadd, 1) := by decide +kernel
theorem dX3_remove_46 : decode cX3_remove 46 = .ok (.iaload, 1) := by decide +kernel
theorem dX3_remove_47 : decode cX3_remove 47 = .ok (.iastore, 1) := by decide +kernel
theorem dX3_remove_48 : decode cX3_remove 48 = .ok (.aload_n 0, 1) := by decide +kernel
theorem dX3_remove_49 : decode cX3_remove 49 = .ok (.getfield 18, 3) := by decide +kernel
theorem dX3_remove_52 : decode cX3_remove 52 = .ok (.iload_n 2, 1) := by decide +kernel
theorem dX3_remove_53 : decode cX3_remove 53 = .ok (.iconst 1, 1) := by decide +kernel
theorem dX3_remove_54 : decode cX3_remove 54 = .ok (.iadd, 1) := by decide +kernel
theorem dX3_remove_55 : decode cX3_remove 55 = .ok (.bipush 8, 2) := by decide +kernel
theorem dX3_remove_57 : decode cX3_remove 57 = .ok (.imul, 1) := by decide +kernel
theorem dX3_remove_58 : decode cX3_remove 58 = .ok (.aload_n 0, 1) := by decide +kernel
theorem dX3_remove_59 : decode cX3_remove 59 = .ok (.getfield 18, 3) := by decide +kernel
theorem dX3_remove_62 : decode cX3_remove 62 = .ok (.iload_n 2, 1) := by decide +kernel
theorem dX3_remove_63 : decode cX3_remove 63 = .ok (.bipush 8, 2) := by decide +kernel
theorem dX3_remove_65 : decode cX3_remove 65 = .ok (.imul, 1) := by decide +kernel
theorem dX3_remove_66 : decode cX3_remove 66 = .ok (.bipush 8, 2) := by decide +kernel
theorem dX3_remove_68 : decode cX3_remove 68 = .ok (.invokestatic 25, 3) := by decide +kernel
theorem dX3_remove_71 : decode cX3_remove 71 = .ok (.iinc 2 1, 3) := by decide +kernel
theorem dX3_remove_74 : decode cX3_remove 74 = .ok (.goto (-62), 3) := by decide +kernel
theorem dX3_remove_77 : decode cX3_remove 77 = .ok (.return_, 1) := by decide +kernel
theorem dX4_init_0 : decode cX4_init 0 = .ok (.aload_n 0, 1) := by decide +kernel
theorem dX4_init_1 : decode cX4_init 1 = .ok (.invokespecial 3, 3) := by decide +kernel
theorem dX4_init_4 : decode cX4_init 4 = .ok (.aload_n 0, 1) := by decide +kernel
theorem dX4_init_5 : decode cX4_init 5 = .ok (.new 9, 3) := by decide +kernel
theorem dX4_init_8 : decode cX4_init 8 = .ok (.dup, 1) := by decide +kernel
theorem dX4_init_9 : decode cX4_init 9 = .ok (.invokespecial 11, 3) := by decide +kernel
theorem dX4_init_12 : decode cX4_init 12 = .ok (.putfield 12, 3) := by decide +kernel
theorem dX4_init_15 : decode cX4_init 15 = .ok (.return_, 1) := by decide +kernel
theorem dX4_fewestPulls_0 : decode cX4_fewestPulls 0 = .ok (.aload_n 0, 1) := by decide +kernel
theorem dX4_fewestPulls_1 : decode cX4_fewestPulls 1 = .ok (.getfield 12, 3) := by decide +kernel
theorem dX4_fewestPulls_4 : decode cX4_fewestPulls 4 = .ok (.aload_n 1, 1) := by decide +kernel
theorem dX4_fewestPulls_5 : decode cX4_fewestPulls 5 = .ok (.invokevirtual 18, 3) := by decide +kernel
theorem dX4_fewestPulls_8 : decode cX4_fewestPulls 8 = .ok (.aload_n 0, 1) := by decide +kernel
theorem dX4_fewestPulls_9 : decode cX4_fewestPulls 9 = .ok (.getfield 12, 3) := by decide +kernel
theorem dX4_fewestPulls_12 : decode cX4_fewestPulls 12 = .ok (.iload_n 2, 1) := by decide +kernel
theorem dX4_fewestPulls_13 : decode cX4_fewestPulls 13 = .ok (.invokevirtual 22, 3) := by decide +kernel
theorem dX4_fewestPulls_16 : decode cX4_fewestPulls 16 = .ok (.aload_n 0, 1) := by decide +kernel
theorem dX4_fewestPulls_17 : decode cX4_fewestPulls 17 = .ok (.getfield 12, 3) := by decide +kernel
theorem dX4_fewestPulls_20 : decode cX4_fewestPulls 20 = .ok (.getfield 26, 3) := by decide +kernel
theorem dX4_fewestPulls_23 : decode cX4_fewestPulls 23 = .ok (.bipush 8, 2) := by decide +kernel
theorem dX4_fewestPulls_25 : decode cX4_fewestPulls 25 = .ok (.invokevirtual 30, 3) := by decide +kernel
theorem dX4_fewestPulls_28 : decode cX4_fewestPulls 28 = .ok (.if_icmp .eq 6, 3) := by decide +kernel
theorem dX4_fewestPulls_31 : decode cX4_fewestPulls 31 = .ok (.bipush (-6), 2) := by decide +kernel
theorem dX4_fewestPulls_33 : decode cX4_fewestPulls 33 = .ok (.ireturn, 1) := by decide +kernel
theorem dX4_fewestPulls_34 : decode cX4_fewestPulls 34 = .ok (.iconst 0, 1) := by decide +kernel
theorem dX4_fewestPulls_35 : decode cX4_fewestPulls 35 = .ok (.istore_n 3, 1) := by decide +kernel
theorem dX4_fewestPulls_36 : decode cX4_fewestPulls 36 = .ok (.iload_n 3, 1) := by decide +kernel
theorem dX4_fewestPulls_37 : decode cX4_fewestPulls 37 = .ok (.bipush 8, 2) := by decide +kernel
theorem dX4_fewestPulls_39 : decode cX4_fewestPulls 39 = .ok (.if_icmp .gt 92, 3) := by decide +kernel
theorem dX4_fewestPulls_42 : decode cX4_fewestPulls 42 = .ok (.aload_n 0, 1) := by decide +kernel
theorem dX4_fewestPulls_43 : decode cX4_fewestPulls 43 = .ok (.getfield 12, 3) := by decide +kernel
theorem dX4_fewestPulls_46 : decode cX4_fewestPulls 46 = .ok (.getfield 26, 3) := by decide +kernel
theorem dX4_fewestPulls_49 : decode cX4_fewestPulls 49 = .ok (.bipush 8, 2) := by decide +kernel
theorem dX4_fewestPulls_51 : decode cX4_fewestPulls 51 = .ok (.invokevirtual 30, 3) := by decide +kernel
theorem dX4_fewestPulls_54 : decode cX4_fewestPulls 54 = .ok (.istore 4, 2) := by decide +kernel
theorem dX4_fewestPulls_56 : decode cX4_fewestPulls 56 = .ok (.iload 4, 2) := by decide +kernel
theorem dX4_fewestPulls_58 : decode cX4_fewestPulls 58 = .ok (.aload_n 0, 1) := by decide +kernel
theorem dX4_fewestPulls_59 : decode cX4_fewestPulls 59 = .ok (.getfield 12, 3) := by decide +kernel
theorem dX4_fewestPulls_62 : decode cX4_fewestPulls 62 = .ok (.getfield 35, 3) := by decide +kernel
theorem dX4_fewestPulls_65 : decode cX4_fewestPulls 65 = .ok (.iload_n 2, 1) := by decide +kernel
theorem dX4_fewestPulls_66 : decode cX4_fewestPulls 66 = .ok (.invokevirtual 39, 3) := by decide +kernel
theorem dX4_fewestPulls_69 : decode cX4_fewestPulls 69 = .ok (.if_icmp .ne 5, 3) := by decide +kernel
theorem dX4_fewestPulls_72 : decode cX4_fewestPulls 72 = .ok (.iload_n 3, 1) := by decide +kernel
theorem dX4_fewestPulls_73 : decode cX4_fewestPulls 73 = .ok (.ireturn, 1) := by decide +kernel
theorem dX4_fewestPulls_74 : decode cX4_fewestPulls 74 = .ok (.aload_n 0, 1) := by decide +kernel
theorem dX4_fewestPulls_75 : decode cX4_fewestPulls 75 = .ok (.iload_n 2, 1) := by decide +kernel
theorem dX4_fewestPulls_76 : decode cX4_fewestPulls 76 = .ok (.iload 4, 2) := by decide +kernel
theorem dX4_fewestPulls_78 : decode cX4_fewestPulls 78 = .ok (.invokevirtual 44, 3) := by decide +kernel
theorem dX4_fewestPulls_81 : decode cX4_fewestPulls 81 = .ok (.istore 5, 2) := by decide +kernel
theorem dX4_fewestPulls_83 : decode cX4_fewestPulls 83 = .ok (.iload 5, 2) := by decide +kernel
theorem dX4_fewestPulls_85 : decode cX4_fewestPulls 85 = .ok (.bipush (-6), 2) := by decide +kernel
theorem dX4_fewestPulls_87 : decode cX4_fewestPulls 87 = .ok (.if_icmp .ne 7, 3) := by decide +kernel
theorem dX4_fewestPulls_90 : decode cX4_fewestPulls 90 = .ok (.iconst 0, 1) := by decide +kernel
theorem dX4_fewestPulls_91 : decode cX4_fewestPulls 91 = .ok (.goto 12, 3) := by decide +kernel
theorem dX4_fewestPulls_94 : decode cX4_fewestPulls 94 = .ok (.aload_n 0, 1) := by decide +kernel
theorem dX4_fewestPulls_95 : decode cX4_fewestPulls 95 = .ok (.iload_n 2, 1) := by decide +kernel
theorem dX4_fewestPulls_96 : decode cX4_fewestPulls 96 = .ok (.iload 4, 2) := by decide +kernel
theorem dX4_fewestPulls_98 : decode cX4_fewestPulls 98 = .ok (.iload 5, 2) := by decide +kernel
theorem dX4_fewestPulls_100 : decode cX4_fewestPulls 100 = .ok (.invokevirtual 48, 3) := by decide +kernel
theorem dX4_fewestPulls_103 : decode cX4_fewestPulls 103 = .ok (.istore 6, 2) := by decide +kernel
theorem dX4_fewestPulls_105 : decode cX4_fewestPulls 105 = .ok (.iload 6, 2) := by decide +kernel
theorem dX4_fewestPulls_107 : decode cX4_fewestPulls 107 = .ok (.ifCond .ne 6, 3) := by decide +kernel
theorem dX4_fewestPulls_110 : decode cX4_fewestPulls 110 = .ok (.bipush (-6), 2) := by decide +kernel
theorem dX4_fewestPulls_112 : decode cX4_fewestPulls 112 = .ok (.ireturn, 1) := by decide +kernel
theorem dX4_fewestPulls_113 : decode cX4_fewestPulls 113 = .ok (.aload_n 0, 1) := by decide +kernel
theorem dX4_fewestPulls_114 : decode cX4_fewestPulls 114 = .ok (.getfield 12, 3) := by decide +kernel
theorem dX4_fewestPulls_117 : decode cX4_fewestPulls 117 = .ok (.iload 5, 2) := by decide +kernel
theorem dX4_fewestPulls_119 : decode cX4_fewestPulls 119 = .ok (.iload 6, 2) := by decide +kernel
theorem dX4_fewestPulls_121 : decode cX4_fewestPulls 121 = .ok (.invokevirtual 52, 3) := by decide +kernel
theorem dX4_fewestPulls_124 : decode cX4_fewestPulls 124 = .ok (.pop, 1) := by decide +kernel
theorem dX4_fewestPulls_125 : decode cX4_fewestPulls 125 = .ok (.iinc 3 1, 3) := by decide +kernel
theorem dX4_fewestPulls_128 : decode cX4_fewestPulls 128 = .ok (.goto (-92), 3) := by decide +kernel
theorem dX4_fewestPulls_131 : decode cX4_fewestPulls 131 = .ok (.bipush (-6), 2) := by decide +kernel
theorem dX4_fewestPulls_133 : decode cX4_fewestPulls 133 = .ok (.ireturn, 1) := by decide +kernel
theorem dX4_trackOfNext_0 : decode cX4_trackOfNext 0 = .ok (.aload_n 0, 1) := by decide +kernel
theorem dX4_trackOfNext_1 : decode cX4_trackOfNext 1 = .ok (.getfield 12, 3) := by decide +kernel
theorem dX4_trackOfNext_4 : decode cX4_trackOfNext 4 = .ok (.getfield 26, 3) := by decide +kernel
theorem dX4_trackOfNext_7 : decode cX4_trackOfNext 7 = .ok (.aload_n 0, 1) := by decide +kernel
theorem dX4_trackOfNext_8 : decode cX4_trackOfNext 8 = .ok (.getfield 12, 3) := by decide +kernel
theorem dX4_trackOfNext_11 : decode cX4_trackOfNext 11 = .ok (.getfield 35, 3) := by decide +kernel
theorem dX4_trackOfNext_14 : decode cX4_trackOfNext 14 = .ok (.iload_n 1, 1) := by decide +kernel
theorem dX4_trackOfNext_15 : decode cX4_trackOfNext 15 = .ok (.iload_n 2, 1) := by decide +kernel
theorem dX4_trackOfNext_16 : decode cX4_trackOfNext 16 = .ok (.invokevirtual 55, 3) := by decide +kernel
theorem dX4_trackOfNext_19 : decode cX4_trackOfNext 19 = .ok (.invokevirtual 58, 3) := by decide +kernel
theorem dX4_trackOfNext_22 : decode cX4_trackOfNext 22 = .ok (.istore_n 3, 1) := by decide +kernel
theorem dX4_trackOfNext_23 : decode cX4_trackOfNext 23 = .ok (.iload_n 3, 1) := by decide +kernel
theorem dX4_trackOfNext_24 : decode cX4_trackOfNext 24 = .ok (.bipush 8, 2) := by decide +kernel
theorem dX4_trackOfNext_26 : decode cX4_trackOfNext 26 = .ok (.if_icmp .ne 8, 3) := by decide +kernel
theorem dX4_trackOfNext_29 : decode cX4_trackOfNext 29 = .ok (.bipush (-6), 2) := by decide +kernel
theorem dX4_trackOfNext_31 : decode cX4_trackOfNext 31 = .ok (.goto 4, 3) := by decide +kernel
theorem dX4_trackOfNext_34 : decode cX4_trackOfNext 34 = .ok (.iload_n 3, 1) := by decide +kernel
theorem dX4_trackOfNext_35 : decode cX4_trackOfNext 35 = .ok (.ireturn, 1) := by decide +kernel
theorem dX4_manyNext_0 : decode cX4_manyNext 0 = .ok (.aload_n 0, 1) := by decide +kernel
theorem dX4_manyNext_1 : decode cX4_manyNext 1 = .ok (.getfield 12, 3) := by decide +kernel
theorem dX4_manyNext_4 : decode cX4_manyNext 4 = .ok (.getfield 26, 3) := by decide +kernel
theorem dX4_manyNext_7 : decode cX4_manyNext 7 = .ok (.iload_n 3, 1) := by decide +kernel
theorem dX4_manyNext_8 : decode cX4_manyNext 8 = .ok (.invokevirtual 30, 3) := by decide +kernel
theorem dX4_manyNext_11 : decode cX4_manyNext 11 = .ok (.aload_n 0, 1) := by decide +kernel
theorem dX4_manyNext_12 : decode cX4_manyNext 12 = .ok (.getfield 12, 3) := by decide +kernel
theorem dX4_manyNext_15 : decode cX4_manyNext 15 = .ok (.getfield 35, 3) := by decide +kernel
theorem dX4_manyNext_18 : decode cX4_manyNext 18 = .ok (.iload_n 1, 1) := by decide +kernel
theorem dX4_manyNext_19 : decode cX4_manyNext 19 = .ok (.invokevirtual 39, 3) := by decide +kernel
theorem dX4_manyNext_22 : decode cX4_manyNext 22 = .ok (.iload_n 2, 1) := by decide +kernel
theorem dX4_manyNext_23 : decode cX4_manyNext 23 = .ok (.isub, 1) := by decide +kernel
theorem dX4_manyNext_24 : decode cX4_manyNext 24 = .ok (.invokestatic 61, 3) := by decide +kernel
theorem dX4_manyNext_27 : decode cX4_manyNext 27 = .ok (.istore 4, 2) := by decide +kernel
theorem dX4_manyNext_29 : decode cX4_manyNext 29 = .ok (.iconst 0, 1) := by decide +kernel
theorem dX4_manyNext_30 : decode cX4_manyNext 30 = .ok (.istore 5, 2) := by decide +kernel
theorem dX4_manyNext_32 : decode cX4_manyNext 32 = .ok (.iload 5, 2) := by decide +kernel
theorem dX4_manyNext_34 : decode cX4_manyNext 34 = .ok (.iload 4, 2) := by decide +kernel
theorem dX4_manyNext_36 : decode cX4_manyNext 36 = .ok (.if_icmp .ge 43, 3) := by decide +kernel
theorem dX4_manyNext_39 : decode cX4_manyNext 39 = .ok (.aload_n 0, 1) := by decide +kernel
theorem dX4_manyNext_40 : decode cX4_manyNext 40 = .ok (.getfield 12, 3) := by decide +kernel
theorem dX4_manyNext_43 : decode cX4_manyNext 43 = .ok (.getfield 26, 3) := by decide +kernel
theorem dX4_manyNext_46 : decode cX4_manyNext 46 = .ok (.iload_n 3, 1) := by decide +kernel
theorem dX4_manyNext_47 : decode cX4_manyNext 47 = .ok (.iload 5, 2) := by decide +kernel
theorem dX4_manyNext_49 : decode cX4_manyNext 49 = .ok (.invokevirtual 66, 3) := by decide +kernel
theorem dX4_manyNext_52 : decode cX4_manyNext 52 = .ok (.aload_n 0, 1) := by decide +kernel
theorem dX4_manyNext_53 : decode cX4_manyNext 53 = .ok (.getfield 12, 3) := by decide +kernel
theorem dX4_manyNext_56 : decode cX4_manyNext 56 = .ok (.getfield 35, 3) := by decide +kernel
theorem dX4_manyNext_59 : decode cX4_manyNext 59 = .ok (.iload_n 1, 1) := by decide +kernel
theorem dX4_manyNext_60 : decode cX4_manyNext 60 = .ok (.iload_n 2, 1) := by decide +kernel
theorem dX4_manyNext_61 : decode cX4_manyNext 61 = .ok (.iload 5, 2) := by decide +kernel
theorem dX4_manyNext_63 : decode cX4_manyNext 63 = .ok (.iadd, 1) := by decide +kernel
theorem dX4_manyNext_64 : decode cX4_manyNext 64 = .ok (.invokevirtual 55, 3) := by decide +kernel
theorem dX4_manyNext_67 : decode cX4_manyNext 67 = .ok (.if_icmp .eq 6, 3) := by decide +kernel
theorem dX4_manyNext_70 : decode cX4_manyNext 70 = .ok (.iload 5, 2) := by decide +kernel
theorem dX4_manyNext_72 : decode cX4_manyNext 72 = .ok (.ireturn, 1) := by decide +kernel
theorem dX4_manyNext_73 : decode cX4_manyNext 73 = .ok (.iinc 5 1, 3) := by decide +kernel
theorem dX4_manyNext_76 : decode cX4_manyNext 76 = .ok (.goto (-44), 3) := by decide +kernel
theorem dX4_manyNext_79 : decode cX4_manyNext 79 = .ok (.iload 4, 2) := by decide +kernel
theorem dX4_manyNext_81 : decode cX4_manyNext 81 = .ok (.ireturn, 1) := by decide +kernel
theorem dX4_fewestMoves_0 : decode cX4_fewestMoves 0 = .ok (.aload_n 0, 1) := by decide +kernel
theorem dX4_fewestMoves_1 : decode cX4_fewestMoves 1 = .ok (.getfield 12, 3) := by decide +kernel
theorem dX4_fewestMoves_4 : decode cX4_fewestMoves 4 = .ok (.aload_n 1, 1) := by decide +kernel
theorem dX4_fewestMoves_5 : decode cX4_fewestMoves 5 = .ok (.invokevirtual 18, 3) := by decide +kernel
theorem dX4_fewestMoves_8 : decode cX4_fewestMoves 8 = .ok (.aload_n 0, 1) := by decide +kernel
theorem dX4_fewestMoves_9 : decode cX4_fewestMoves 9 = .ok (.getfield 12, 3) := by decide +kernel
theorem dX4_fewestMoves_12 : decode cX4_fewestMoves 12 = .ok (.iload_n 2, 1) := by decide +kernel
theorem dX4_fewestMoves_13 : decode cX4_fewestMoves 13 = .ok (.invokevirtual 69, 3) := by decide +kernel
theorem dX4_fewestMoves_16 : decode cX4_fewestMoves 16 = .ok (.ifCond .eq 5, 3) := by decide +kernel
theorem dX4_fewestMoves_19 : decode cX4_fewestMoves 19 = .ok (.iconst 0, 1) := by decide +kernel
theorem dX4_fewestMoves_20 : decode cX4_fewestMoves 20 = .ok (.ireturn, 1) := by decide +kernel
theorem dX4_fewestMoves_21 : decode cX4_fewestMoves 21 = .ok (.aload_n 0, 1) := by decide +kernel
theorem dX4_fewestMoves_22 : decode cX4_fewestMoves 22 = .ok (.iload_n 2, 1) := by decide +kernel
theorem dX4_fewestMoves_23 : decode cX4_fewestMoves 23 = .ok (.invokevirtual 73, 3) := by decide +kernel
theorem dX4_fewestMoves_26 : decode cX4_fewestMoves 26 = .ok (.ifCond .eq 5, 3) := by decide +kernel
theorem dX4_fewestMoves_29 : decode cX4_fewestMoves 29 = .ok (.iconst 1, 1) := by decide +kernel
theorem dX4_fewestMoves_30 : decode cX4_fewestMoves 30 = .ok (.ireturn, 1) := by decide +kernel
theorem dX4_fewestMoves_31 : decode cX4_fewestMoves 31 = .ok (.iconst 0, 1) := by decide +kernel
theorem dX4_fewestMoves_32 : decode cX4_fewestMoves 32 = .ok (.istore_n 3, 1) := by decide +kernel
theorem dX4_fewestMoves_33 : decode cX4_fewestMoves 33 = .ok (.iload_n 3, 1) := by decide +kernel
theorem dX4_fewestMoves_34 : decode cX4_fewestMoves 34 = .ok (.aload_n 0, 1) := by decide +kernel
theorem dX4_fewestMoves_35 : decode cX4_fewestMoves 35 = .ok (.getfield 12, 3) := by decide +kernel
theorem dX4_fewestMoves_38 : decode cX4_fewestMoves 38 = .ok (.getfield 76, 3) := by decide +kernel
theorem dX4_fewestMoves_41 : decode cX4_fewestMoves 41 = .ok (.if_icmp .ge 29, 3) := by decide +kernel
theorem dX4_fewestMoves_44 : decode cX4_fewestMoves 44 = .ok (.aload_n 0, 1) := by decide +kernel
theorem dX4_fewestMoves_45 : decode cX4_fewestMoves 45 = .ok (.iload_n 2, 1) := by decide +kernel
theorem dX4_fewestMoves_46 : decode cX4_fewestMoves 46 = .ok (.iload_n 3, 1) := by decide +kernel
theorem dX4_fewestMoves_47 : decode cX4_fewestMoves 47 = .ok (.invokevirtual 80, 3) := by decide +kernel
theorem dX4_fewestMoves_50 : decode cX4_fewestMoves 50 = .ok (.ifCond .ne 12, 3) := by decide +kernel
theorem dX4_fewestMoves_53 : decode cX4_fewestMoves 53 = .ok (.aload_n 0, 1) := by decide +kernel
theorem dX4_fewestMoves_54 : decode cX4_fewestMoves 54 = .ok (.iload_n 2, 1) := by decide +kernel
theorem dX4_fewestMoves_55 : decode cX4_fewestMoves 55 = .ok (.iload_n 3, 1) := by decide +kernel
theorem dX4_fewestMoves_56 : decode cX4_fewestMoves 56 = .ok (.invokevirtual 84, 3) := by decide +kernel
theorem dX4_fewestMoves_59 : decode cX4_fewestMoves 59 = .ok (.ifCond .eq 5, 3) := by decide +kernel
theorem dX4_fewestMoves_62 : decode cX4_fewestMoves 62 = .ok (.iconst 2, 1) := by decide +kernel
theorem dX4_fewestMoves_63 : decode cX4_fewestMoves 63 = .ok (.ireturn, 1) := by decide +kernel
theorem dX4_fewestMoves_64 : decode cX4_fewestMoves 64 = .ok (.iinc 3 1, 3) := by decide +kernel
theorem dX4_fewestMoves_67 : decode cX4_fewestMoves 67 = .ok (.goto (-34), 3) := by decide +kernel
theorem dX4_fewestMoves_70 : decode cX4_fewestMoves 70 = .ok (.aload_n 0, 1) := by decide +kernel
theorem dX4_fewestMoves_71 : decode cX4_fewestMoves 71 = .ok (.iload_n 2, 1) := by decide +kernel
theorem dX4_fewestMoves_72 : decode cX4_fewestMoves 72 = .ok (.invokevirtual 87, 3) := by decide +kernel
theorem dX4_fewestMoves_75 : decode cX4_fewestMoves 75 = .ok (.ifCond .eq 7, 3) := by decide +kernel
theorem dX4_fewestMoves_78 : decode cX4_fewestMoves 78 = .ok (.iconst 2, 1) := by decide +kernel
theorem dX4_fewestMoves_79 : decode cX4_fewestMoves 79 = .ok (.goto 5, 3) := by decide +kernel
theorem dX4_fewestMoves_82 : decode cX4_fewestMoves 82 = .ok (.bipush (-6), 2) := by decide +kernel
theorem dX4_fewestMoves_84 : decode cX4_fewestMoves 84 = .ok (.ireturn, 1) := by decide +kernel
theorem dX4_couldAfterTakingOut_0 : decode cX4_couldAfterTakingOut 0 = .ok (.aload_n 0, 1) := by decide +kernel
theorem dX4_couldAfterTakingOut_1 : decode cX4_couldAfterTakingOut 1 = .ok (.getfield 12, 3) := by decide +kernel
theorem dX4_couldAfterTakingOut_4 : decode cX4_couldAfterTakingOut 4 = .ok (.getfield 26, 3) := by decide +kernel
theorem dX4_couldAfterTakingOut_7 : decode cX4_couldAfterTakingOut 7 = .ok (.iload_n 2, 1) := by decide +kernel
theorem dX4_couldAfterTakingOut_8 : decode cX4_couldAfterTakingOut 8 = .ok (.invokevirtual 30, 3) := by decide +kernel
theorem dX4_couldAfterTakingOut_11 : decode cX4_couldAfterTakingOut 11 = .ok (.istore_n 3, 1) := by decide +kernel
theorem dX4_couldAfterTakingOut_12 : decode cX4_couldAfterTakingOut 12 = .ok (.iconst 0, 1) := by decide +kernel
theorem dX4_couldAfterTakingOut_13 : decode cX4_couldAfterTakingOut 13 = .ok (.istore 4, 2) := by decide +kernel
theorem dX4_couldAfterTakingOut_15 : decode cX4_couldAfterTakingOut 15 = .ok (.iconst 1, 1) := by decide +kernel
theorem dX4_couldAfterTakingOut_16 : decode cX4_couldAfterTakingOut 16 = .ok (.istore 5, 2) := by decide +kernel
theorem dX4_couldAfterTakingOut_18 : decode cX4_couldAfterTakingOut 18 = .ok (.iload 5, 2) := by decide +kernel
theorem dX4_couldAfterTakingOut_20 : decode cX4_couldAfterTakingOut 20 = .ok (.iload_n 3, 1) := by decide +kernel
theorem dX4_couldAfterTakingOut_21 : decode cX4_couldAfterTakingOut 21 = .ok (.if_icmp .gt 64, 3) := by decide +kernel
theorem dX4_couldAfterTakingOut_24 : decode cX4_couldAfterTakingOut 24 = .ok (.iload 4, 2) := by decide +kernel
theorem dX4_couldAfterTakingOut_26 : decode cX4_couldAfterTakingOut 26 = .ok (.ifCond .ne 59, 3) := by decide +kernel
theorem dX4_couldAfterTakingOut_29 : decode cX4_couldAfterTakingOut 29 = .ok (.aload_n 0, 1) := by decide +kernel
theorem dX4_couldAfterTakingOut_30 : decode cX4_couldAfterTakingOut 30 = .ok (.getfield 12, 3) := by decide +kernel
theorem dX4_couldAfterTakingOut_33 : decode cX4_couldAfterTakingOut 33 = .ok (.iload_n 2, 1) := by decide +kernel
theorem dX4_couldAfterTakingOut_34 : decode cX4_couldAfterTakingOut 34 = .ok (.iload 5, 2) := by decide +kernel
theorem dX4_couldAfterTakingOut_36 : decode cX4_couldAfterTakingOut 36 = .ok (.invokevirtual 90, 3) := by decide +kernel
theorem dX4_couldAfterTakingOut_39 : decode cX4_couldAfterTakingOut 39 = .ok (.ifCond .eq 40, 3) := by decide +kernel
theorem dX4_couldAfterTakingOut_42 : decode cX4_couldAfterTakingOut 42 = .ok (.aload_n 0, 1) := by decide +kernel
theorem dX4_couldAfterTakingOut_43 : decode cX4_couldAfterTakingOut 43 = .ok (.getfield 12, 3) := by decide +kernel
theorem dX4_couldAfterTakingOut_46 : decode cX4_couldAfterTakingOut 46 = .ok (.getfield 26, 3) := by decide +kernel
theorem dX4_couldAfterTakingOut_49 : decode cX4_couldAfterTakingOut 49 = .ok (.iload_n 2, 1) := by decide +kernel
theorem dX4_couldAfterTakingOut_50 : decode cX4_couldAfterTakingOut 50 = .ok (.bipush 8, 2) := by decide +kernel
theorem dX4_couldAfterTakingOut_52 : decode cX4_couldAfterTakingOut 52 = .ok (.iload 5, 2) := by decide +kernel
theorem dX4_couldAfterTakingOut_54 : decode cX4_couldAfterTakingOut 54 = .ok (.invokevirtual 93, 3) := by decide +kernel
theorem dX4_couldAfterTakingOut_57 : decode cX4_couldAfterTakingOut 57 = .ok (.aload_n 0, 1) := by decide +kernel
theorem dX4_couldAfterTakingOut_58 : decode cX4_couldAfterTakingOut 58 = .ok (.iload_n 1, 1) := by decide +kernel
theorem dX4_couldAfterTakingOut_59 : decode cX4_couldAfterTakingOut 59 = .ok (.invokevirtual 73, 3) := by decide +kernel
theorem dX4_couldAfterTakingOut_62 : decode cX4_couldAfterTakingOut 62 = .ok (.istore 4, 2) := by decide +kernel
theorem dX4_couldAfterTakingOut_64 : decode cX4_couldAfterTakingOut 64 = .ok (.aload_n 0, 1) := by decide +kernel
theorem dX4_couldAfterTakingOut_65 : decode cX4_couldAfterTakingOut 65 = .ok (.getfield 12, 3) := by decide +kernel
theorem dX4_couldAfterTakingOut_68 : decode cX4_couldAfterTakingOut 68 = .ok (.getfield 26, 3) := by decide +kernel
theorem dX4_couldAfterTakingOut_71 : decode cX4_couldAfterTakingOut 71 = .ok (.bipush 8, 2) := by decide +kernel
theorem dX4_couldAfterTakingOut_73 : decode cX4_couldAfterTakingOut 73 = .ok (.iload_n 2, 1) := by decide +kernel
theorem dX4_couldAfterTakingOut_74 : decode cX4_couldAfterTakingOut 74 = .ok (.iload 5, 2) := by decide +kernel
theorem dX4_couldAfterTakingOut_76 : decode cX4_couldAfterTakingOut 76 = .ok (.invokevirtual 93, 3) := by decide +kernel
theorem dX4_couldAfterTakingOut_79 : decode cX4_couldAfterTakingOut 79 = .ok (.iinc 5 1, 3) := by decide +kernel
theorem dX4_couldAfterTakingOut_82 : decode cX4_couldAfterTakingOut 82 = .ok (.goto (-64), 3) := by decide +kernel
theorem dX4_couldAfterTakingOut_85 : decode cX4_couldAfterTakingOut 85 = .ok (.iload 4, 2) := by decide +kernel
theorem dX4_couldAfterTakingOut_87 : decode cX4_couldAfterTakingOut 87 = .ok (.ireturn, 1) := by decide +kernel
theorem dX4_couldAfterBringingIn_0 : decode cX4_couldAfterBringingIn 0 = .ok (.aload_n 0, 1) := by decide +kernel
theorem dX4_couldAfterBringingIn_1 : decode cX4_couldAfterBringingIn 1 = .ok (.getfield 12, 3) := by decide +kernel
theorem dX4_couldAfterBringingIn_4 : decode cX4_couldAfterBringingIn 4 = .ok (.getfield 26, 3) := by decide +kernel
theorem dX4_couldAfterBringingIn_7 : decode cX4_couldAfterBringingIn 7 = .ok (.bipush 8, 2) := by decide +kernel
theorem dX4_couldAfterBringingIn_9 : decode cX4_couldAfterBringingIn 9 = .ok (.invokevirtual 30, 3) := by decide +kernel
theorem dX4_couldAfterBringingIn_12 : decode cX4_couldAfterBringingIn 12 = .ok (.istore_n 3, 1) := by decide +kernel
theorem dX4_couldAfterBringingIn_13 : decode cX4_couldAfterBringingIn 13 = .ok (.iconst 0, 1) := by decide +kernel
theorem dX4_couldAfterBringingIn_14 : decode cX4_couldAfterBringingIn 14 = .ok (.istore 4, 2) := by decide +kernel
theorem dX4_couldAfterBringingIn_16 : decode cX4_couldAfterBringingIn 16 = .ok (.iconst 1, 1) := by decide +kernel
theorem dX4_couldAfterBringingIn_17 : decode cX4_couldAfterBringingIn 17 = .ok (.istore 5, 2) := by decide +kernel
theorem dX4_couldAfterBringingIn_19 : decode cX4_couldAfterBringingIn 19 = .ok (.iload 5, 2) := by decide +kernel
theorem dX4_couldAfterBringingIn_21 : decode cX4_couldAfterBringingIn 21 = .ok (.iload_n 3, 1) := by decide +kernel
theorem dX4_couldAfterBringingIn_22 : decode cX4_couldAfterBringingIn 22 = .ok (.if_icmp .gt 64, 3) := by decide +kernel
theorem dX4_couldAfterBringingIn_25 : decode cX4_couldAfterBringingIn 25 = .ok (.iload 4, 2) := by decide +kernel
theorem dX4_couldAfterBringingIn_27 : decode cX4_couldAfterBringingIn 27 = .ok (.ifCond .ne 59, 3) := by decide +kernel
theorem dX4_couldAfterBringingIn_30 : decode cX4_couldAfterBringingIn 30 = .ok (.aload_n 0, 1) := by decide +kernel
theorem dX4_couldAfterBringingIn_31 : decode cX4_couldAfterBringingIn 31 = .ok (.getfield 12, 3) := by decide +kernel
theorem dX4_couldAfterBringingIn_34 : decode cX4_couldAfterBringingIn 34 = .ok (.iload_n 2, 1) := by decide +kernel
theorem dX4_couldAfterBringingIn_35 : decode cX4_couldAfterBringingIn 35 = .ok (.iload 5, 2) := by decide +kernel
theorem dX4_couldAfterBringingIn_37 : decode cX4_couldAfterBringingIn 37 = .ok (.invokevirtual 97, 3) := by decide +kernel
theorem dX4_couldAfterBringingIn_40 : decode cX4_couldAfterBringingIn 40 = .ok (.ifCond .eq 40, 3) := by decide +kernel
theorem dX4_couldAfterBringingIn_43 : decode cX4_couldAfterBringingIn 43 = .ok (.aload_n 0, 1) := by decide +kernel
theorem dX4_couldAfterBringingIn_44 : decode cX4_couldAfterBringingIn 44 = .ok (.getfield 12, 3) := by decide +kernel
theorem dX4_couldAfterBringingIn_47 : decode cX4_couldAfterBringingIn 47 = .ok (.getfield 26, 3) := by decide +kernel
theorem dX4_couldAfterBringingIn_50 : decode cX4_couldAfterBringingIn 50 = .ok (.bipush 8, 2) := by decide +kernel
theorem dX4_couldAfterBringingIn_52 : decode cX4_couldAfterBringingIn 52 = .ok (.iload_n 2, 1) := by decide +kernel
theorem dX4_couldAfterBringingIn_53 : decode cX4_couldAfterBringingIn 53 = .ok (.iload 5, 2) := by decide +kernel
theorem dX4_couldAfterBringingIn_55 : decode cX4_couldAfterBringingIn 55 = .ok (.invokevirtual 93, 3) := by decide +kernel
theorem dX4_couldAfterBringingIn_58 : decode cX4_couldAfterBringingIn 58 = .ok (.aload_n 0, 1) := by decide +kernel
theorem dX4_couldAfterBringingIn_59 : decode cX4_couldAfterBringingIn 59 = .ok (.iload_n 1, 1) := by decide +kernel
theorem dX4_couldAfterBringingIn_60 : decode cX4_couldAfterBringingIn 60 = .ok (.invokevirtual 73, 3) := by decide +kernel
theorem dX4_couldAfterBringingIn_63 : decode cX4_couldAfterBringingIn 63 = .ok (.istore 4, 2) := by decide +kernel
theorem dX4_couldAfterBringingIn_65 : decode cX4_couldAfterBringingIn 65 = .ok (.aload_n 0, 1) := by decide +kernel
theorem dX4_couldAfterBringingIn_66 : decode cX4_couldAfterBringingIn 66 = .ok (.getfield 12, 3) := by decide +kernel
theorem dX4_couldAfterBringingIn_69 : decode cX4_couldAfterBringingIn 69 = .ok (.getfield 26, 3) := by decide +kernel
theorem dX4_couldAfterBringingIn_72 : decode cX4_couldAfterBringingIn 72 = .ok (.iload_n 2, 1) := by decide +kernel
theorem dX4_couldAfterBringingIn_73 : decode cX4_couldAfterBringingIn 73 = .ok (.bipush 8, 2) := by decide +kernel
theorem dX4_couldAfterBringingIn_75 : decode cX4_couldAfterBringingIn 75 = .ok (.iload 5, 2) := by decide +kernel
theorem dX4_couldAfterBringingIn_77 : decode cX4_couldAfterBringingIn 77 = .ok (.invokevirtual 93, 3) := by decide +kernel
theorem dX4_couldAfterBringingIn_80 : decode cX4_couldAfterBringingIn 80 = .ok (.iinc 5 1, 3) := by decide +kernel
theorem dX4_couldAfterBringingIn_83 : decode cX4_couldAfterBringingIn 83 = .ok (.goto (-64), 3) := by decide +kernel
theorem dX4_couldAfterBringingIn_86 : decode cX4_couldAfterBringingIn 86 = .ok (.iload 4, 2) := by decide +kernel
theorem dX4_couldAfterBringingIn_88 : decode cX4_couldAfterBringingIn 88 = .ok (.ireturn, 1) := by decide +kernel
theorem dX4_couldAfterGoingRound_0 : decode cX4_couldAfterGoingRound 0 = .ok (.aload_n 0, 1) := by decide +kernel
theorem dX4_couldAfterGoingRound_1 : decode cX4_couldAfterGoingRound 1 = .ok (.getfield 12, 3) := by decide +kernel
theorem dX4_couldAfterGoingRound_4 : decode cX4_couldAfterGoingRound 4 = .ok (.invokevirtual 100, 3) := by decide +kernel
theorem dX4_couldAfterGoingRound_7 : decode cX4_couldAfterGoingRound 7 = .ok (.ifCond .ne 5, 3) := by decide +kernel
theorem dX4_couldAfterGoingRound_10 : decode cX4_couldAfterGoingRound 10 = .ok (.iconst 0, 1) := by decide +kernel
theorem dX4_couldAfterGoingRound_11 : decode cX4_couldAfterGoingRound 11 = .ok (.ireturn, 1) := by decide +kernel
theorem dX4_couldAfterGoingRound_12 : decode cX4_couldAfterGoingRound 12 = .ok (.aload_n 0, 1) := by decide +kernel
theorem dX4_couldAfterGoingRound_13 : decode cX4_couldAfterGoingRound 13 = .ok (.getfield 12, 3) := by decide +kernel
theorem dX4_couldAfterGoingRound_16 : decode cX4_couldAfterGoingRound 16 = .ok (.getfield 26, 3) := by decide +kernel
theorem dX4_couldAfterGoingRound_19 : decode cX4_couldAfterGoingRound 19 = .ok (.invokevirtual 104, 3) := by decide +kernel
theorem dX4_couldAfterGoingRound_22 : decode cX4_couldAfterGoingRound 22 = .ok (.aload_n 0, 1) := by decide +kernel
theorem dX4_couldAfterGoingRound_23 : decode cX4_couldAfterGoingRound 23 = .ok (.iload_n 1, 1) := by decide +kernel
theorem dX4_couldAfterGoingRound_24 : decode cX4_couldAfterGoingRound 24 = .ok (.invokevirtual 73, 3) := by decide +kernel
theorem dX4_couldAfterGoingRound_27 : decode cX4_couldAfterGoingRound 27 = .ok (.istore_n 2, 1) := by decide +kernel
theorem dX4_couldAfterGoingRound_28 : decode cX4_couldAfterGoingRound 28 = .ok (.aload_n 0, 1) := by decide +kernel
theorem dX4_couldAfterGoingRound_29 : decode cX4_couldAfterGoingRound 29 = .ok (.getfield 12, 3) := by decide +kernel
theorem dX4_couldAfterGoingRound_32 : decode cX4_couldAfterGoingRound 32 = .ok (.getfield 26, 3) := by decide +kernel
theorem dX4_couldAfterGoingRound_35 : decode cX4_couldAfterGoingRound 35 = .ok (.invokevirtual 104, 3) := by decide +kernel
theorem dX4_couldAfterGoingRound_38 : decode cX4_couldAfterGoingRound 38 = .ok (.iload_n 2, 1) := by decide +kernel
theorem dX4_couldAfterGoingRound_39 : decode cX4_couldAfterGoingRound 39 = .ok (.ireturn, 1) := by decide +kernel
theorem dX4_couldAfterOne_0 : decode cX4_couldAfterOne 0 = .ok (.aload_n 0, 1) := by decide +kernel
theorem dX4_couldAfterOne_1 : decode cX4_couldAfterOne 1 = .ok (.getfield 12, 3) := by decide +kernel
theorem dX4_couldAfterOne_4 : decode cX4_couldAfterOne 4 = .ok (.getfield 26, 3) := by decide +kernel
theorem dX4_couldAfterOne_7 : decode cX4_couldAfterOne 7 = .ok (.bipush 8, 2) := by decide +kernel
theorem dX4_couldAfterOne_9 : decode cX4_couldAfterOne 9 = .ok (.invokevirtual 30, 3) := by decide +kernel
theorem dX4_couldAfterOne_12 : decode cX4_couldAfterOne 12 = .ok (.istore_n 2, 1) := by decide +kernel
theorem dX4_couldAfterOne_13 : decode cX4_couldAfterOne 13 = .ok (.aload_n 0, 1) := by decide +kernel
theorem dX4_couldAfterOne_14 : decode cX4_couldAfterOne 14 = .ok (.getfield 12, 3) := by decide +kernel
theorem dX4_couldAfterOne_17 : decode cX4_couldAfterOne 17 = .ok (.getfield 35, 3) := by decide +kernel
theorem dX4_couldAfterOne_20 : decode cX4_couldAfterOne 20 = .ok (.iload_n 1, 1) := by decide +kernel
theorem dX4_couldAfterOne_21 : decode cX4_couldAfterOne 21 = .ok (.invokevirtual 39, 3) := by decide +kernel
theorem dX4_couldAfterOne_24 : decode cX4_couldAfterOne 24 = .ok (.istore_n 3, 1) := by decide +kernel
theorem dX4_couldAfterOne_25 : decode cX4_couldAfterOne 25 = .ok (.iload_n 2, 1) := by decide +kernel
theorem dX4_couldAfterOne_26 : decode cX4_couldAfterOne 26 = .ok (.iload_n 3, 1) := by decide +kernel
theorem dX4_couldAfterOne_27 : decode cX4_couldAfterOne 27 = .ok (.if_icmp .ne 27, 3) := by decide +kernel
theorem dX4_couldAfterOne_30 : decode cX4_couldAfterOne 30 = .ok (.aload_n 0, 1) := by decide +kernel
theorem dX4_couldAfterOne_31 : decode cX4_couldAfterOne 31 = .ok (.getfield 12, 3) := by decide +kernel
theorem dX4_couldAfterOne_34 : decode cX4_couldAfterOne 34 = .ok (.invokevirtual 100, 3) := by decide +kernel
theorem dX4_couldAfterOne_37 : decode cX4_couldAfterOne 37 = .ok (.ifCond .eq 15, 3) := by decide +kernel
theorem dX4_couldAfterOne_40 : decode cX4_couldAfterOne 40 = .ok (.aload_n 0, 1) := by decide +kernel
theorem dX4_couldAfterOne_41 : decode cX4_couldAfterOne 41 = .ok (.iload_n 1, 1) := by decide +kernel
theorem dX4_couldAfterOne_42 : decode cX4_couldAfterOne 42 = .ok (.invokevirtual 107, 3) := by decide +kernel
theorem dX4_couldAfterOne_45 : decode cX4_couldAfterOne 45 = .ok (.ifCond .eq 7, 3) := by decide +kernel
theorem dX4_couldAfterOne_48 : decode cX4_couldAfterOne 48 = .ok (.iconst 1, 1) := by decide +kernel
theorem dX4_couldAfterOne_49 : decode cX4_couldAfterOne 49 = .ok (.goto 4, 3) := by decide +kernel
theorem dX4_couldAfterOne_52 : decode cX4_couldAfterOne 52 = .ok (.iconst 0, 1) := by decide +kernel
theorem dX4_couldAfterOne_53 : decode cX4_couldAfterOne 53 = .ok (.ireturn, 1) := by decide +kernel
theorem dX4_couldAfterOne_54 : decode cX4_couldAfterOne 54 = .ok (.aload_n 0, 1) := by decide +kernel
theorem dX4_couldAfterOne_55 : decode cX4_couldAfterOne 55 = .ok (.getfield 12, 3) := by decide +kernel
theorem dX4_couldAfterOne_58 : decode cX4_couldAfterOne 58 = .ok (.iload_n 1, 1) := by decide +kernel
theorem dX4_couldAfterOne_59 : decode cX4_couldAfterOne 59 = .ok (.invokevirtual 22, 3) := by decide +kernel
theorem dX4_couldAfterOne_62 : decode cX4_couldAfterOne 62 = .ok (.iload_n 2, 1) := by decide +kernel
theorem dX4_couldAfterOne_63 : decode cX4_couldAfterOne 63 = .ok (.iload_n 3, 1) := by decide +kernel
theorem dX4_couldAfterOne_64 : decode cX4_couldAfterOne 64 = .ok (.invokestatic 61, 3) := by decide +kernel
theorem dX4_couldAfterOne_67 : decode cX4_couldAfterOne 67 = .ok (.if_icmp .ge 5, 3) := by decide +kernel
theorem dX4_couldAfterOne_70 : decode cX4_couldAfterOne 70 = .ok (.iconst 0, 1) := by decide +kernel
theorem dX4_couldAfterOne_71 : decode cX4_couldAfterOne 71 = .ok (.ireturn, 1) := by decide +kernel
theorem dX4_couldAfterOne_72 : decode cX4_couldAfterOne 72 = .ok (.iload_n 2, 1) := by decide +kernel
theorem dX4_couldAfterOne_73 : decode cX4_couldAfterOne 73 = .ok (.iload_n 3, 1) := by decide +kernel
theorem dX4_couldAfterOne_74 : decode cX4_couldAfterOne 74 = .ok (.if_icmp .le 22, 3) := by decide +kernel
theorem dX4_couldAfterOne_77 : decode cX4_couldAfterOne 77 = .ok (.aload_n 0, 1) := by decide +kernel
theorem dX4_couldAfterOne_78 : decode cX4_couldAfterOne 78 = .ok (.getfield 12, 3) := by decide +kernel
theorem dX4_couldAfterOne_81 : decode cX4_couldAfterOne 81 = .ok (.iload_n 2, 1) := by decide +kernel
theorem dX4_couldAfterOne_82 : decode cX4_couldAfterOne 82 = .ok (.iload_n 3, 1) := by decide +kernel
theorem dX4_couldAfterOne_83 : decode cX4_couldAfterOne 83 = .ok (.isub, 1) := by decide +kernel
theorem dX4_couldAfterOne_84 : decode cX4_couldAfterOne 84 = .ok (.invokevirtual 110, 3) := by decide +kernel
theorem dX4_couldAfterOne_87 : decode cX4_couldAfterOne 87 = .ok (.ifCond .eq 7, 3) := by decide +kernel
theorem dX4_couldAfterOne_90 : decode cX4_couldAfterOne 90 = .ok (.iconst 1, 1) := by decide +kernel
theorem dX4_couldAfterOne_91 : decode cX4_couldAfterOne 91 = .ok (.goto 4, 3) := by decide +kernel
theorem dX4_couldAfterOne_94 : decode cX4_couldAfterOne 94 = .ok (.iconst 0, 1) := by decide +kernel
theorem dX4_couldAfterOne_95 : decode cX4_couldAfterOne 95 = .ok (.ireturn, 1) := by decide +kernel
theorem dX4_couldAfterOne_96 : decode cX4_couldAfterOne 96 = .ok (.aload_n 0, 1) := by decide +kernel
theorem dX4_couldAfterOne_97 : decode cX4_couldAfterOne 97 = .ok (.iload_n 1, 1) := by decide +kernel
theorem dX4_couldAfterOne_98 : decode cX4_couldAfterOne 98 = .ok (.iload_n 2, 1) := by decide +kernel
theorem dX4_couldAfterOne_99 : decode cX4_couldAfterOne 99 = .ok (.invokevirtual 44, 3) := by decide +kernel
theorem dX4_couldAfterOne_102 : decode cX4_couldAfterOne 102 = .ok (.istore 4, 2) := by decide +kernel
theorem dX4_couldAfterOne_104 : decode cX4_couldAfterOne 104 = .ok (.iload_n 3, 1) := by decide +kernel
theorem dX4_couldAfterOne_105 : decode cX4_couldAfterOne 105 = .ok (.iload_n 2, 1) := by decide +kernel
theorem dX4_couldAfterOne_106 : decode cX4_couldAfterOne 106 = .ok (.isub, 1) := by decide +kernel
theorem dX4_couldAfterOne_107 : decode cX4_couldAfterOne 107 = .ok (.istore 5, 2) := by decide +kernel
theorem dX4_couldAfterOne_109 : decode cX4_couldAfterOne 109 = .ok (.iload 4, 2) := by decide +kernel
theorem dX4_couldAfterOne_111 : decode cX4_couldAfterOne 111 = .ok (.bipush (-6), 2) := by decide +kernel
theorem dX4_couldAfterOne_113 : decode cX4_couldAfterOne 113 = .ok (.if_icmp .eq 34, 3) := by decide +kernel
theorem dX4_couldAfterOne_116 : decode cX4_couldAfterOne 116 = .ok (.aload_n 0, 1) := by decide +kernel
theorem dX4_couldAfterOne_117 : decode cX4_couldAfterOne 117 = .ok (.iload_n 1, 1) := by decide +kernel
theorem dX4_couldAfterOne_118 : decode cX4_couldAfterOne 118 = .ok (.iload_n 2, 1) := by decide +kernel
theorem dX4_couldAfterOne_119 : decode cX4_couldAfterOne 119 = .ok (.iload 4, 2) := by decide +kernel
theorem dX4_couldAfterOne_121 : decode cX4_couldAfterOne 121 = .ok (.invokevirtual 48, 3) := by decide +kernel
theorem dX4_couldAfterOne_124 : decode cX4_couldAfterOne 124 = .ok (.iload 5, 2) := by decide +kernel
theorem dX4_couldAfterOne_126 : decode cX4_couldAfterOne 126 = .ok (.if_icmp .ne 21, 3) := by decide +kernel
theorem dX4_couldAfterOne_129 : decode cX4_couldAfterOne 129 = .ok (.aload_n 0, 1) := by decide +kernel
theorem dX4_couldAfterOne_130 : decode cX4_couldAfterOne 130 = .ok (.getfield 12, 3) := by decide +kernel
theorem dX4_couldAfterOne_133 : decode cX4_couldAfterOne 133 = .ok (.iload 4, 2) := by decide +kernel
theorem dX4_couldAfterOne_135 : decode cX4_couldAfterOne 135 = .ok (.iload 5, 2) := by decide +kernel
theorem dX4_couldAfterOne_137 : decode cX4_couldAfterOne 137 = .ok (.invokevirtual 90, 3) := by decide +kernel
theorem dX4_couldAfterOne_140 : decode cX4_couldAfterOne 140 = .ok (.ifCond .eq 7, 3) := by decide +kernel
theorem dX4_couldAfterOne_143 : decode cX4_couldAfterOne 143 = .ok (.iconst 1, 1) := by decide +kernel
theorem dX4_couldAfterOne_144 : decode cX4_couldAfterOne 144 = .ok (.goto 4, 3) := by decide +kernel
theorem dX4_couldAfterOne_147 : decode cX4_couldAfterOne 147 = .ok (.iconst 0, 1) := by decide +kernel
theorem dX4_couldAfterOne_148 : decode cX4_couldAfterOne 148 = .ok (.ireturn, 1) := by decide +kernel
theorem dX4_isTurned_0 : decode cX4_isTurned 0 = .ok (.aload_n 0, 1) := by decide +kernel
theorem dX4_isTurned_1 : decode cX4_isTurned 1 = .ok (.getfield 12, 3) := by decide +kernel
theorem dX4_isTurned_4 : decode cX4_isTurned 4 = .ok (.getfield 35, 3) := by decide +kernel
theorem dX4_isTurned_7 : decode cX4_isTurned 7 = .ok (.iload_n 1, 1) := by decide +kernel
theorem dX4_isTurned_8 : decode cX4_isTurned 8 = .ok (.invokevirtual 39, 3) := by decide +kernel
theorem dX4_isTurned_11 : decode cX4_isTurned 11 = .ok (.istore_n 2, 1) := by decide +kernel
theorem dX4_isTurned_12 : decode cX4_isTurned 12 = .ok (.iconst 0, 1) := by decide +kernel
theorem dX4_isTurned_13 : decode cX4_isTurned 13 = .ok (.istore_n 3, 1) := by decide +kernel
theorem dX4_isTurned_14 : decode cX4_isTurned 14 = .ok (.iload_n 3, 1) := by decide +kernel
theorem dX4_isTurned_15 : decode cX4_isTurned 15 = .ok (.iload_n 2, 1) := by decide +kernel
theorem dX4_isTurned_16 : decode cX4_isTurned 16 = .ok (.if_icmp .ge 43, 3) := by decide +kernel
theorem dX4_isTurned_19 : decode cX4_isTurned 19 = .ok (.aload_n 0, 1) := by decide +kernel
theorem dX4_isTurned_20 : decode cX4_isTurned 20 = .ok (.getfield 12, 3) := by decide +kernel
theorem dX4_isTurned_23 : decode cX4_isTurned 23 = .ok (.getfield 26, 3) := by decide +kernel
theorem dX4_isTurned_26 : decode cX4_isTurned 26 = .ok (.bipush 8, 2) := by decide +kernel
theorem dX4_isTurned_28 : decode cX4_isTurned 28 = .ok (.iload_n 2, 1) := by decide +kernel
theorem dX4_isTurned_29 : decode cX4_isTurned 29 = .ok (.iconst 1, 1) := by decide +kernel
theorem dX4_isTurned_30 : decode cX4_isTurned 30 = .ok (.isub, 1) := by decide +kernel
theorem dX4_isTurned_31 : decode cX4_isTurned 31 = .ok (.iload_n 3, 1) := by decide +kernel
theorem dX4_isTurned_32 : decode cX4_isTurned 32 = .ok (.isub, 1) := by decide +kernel
theorem dX4_isTurned_33 : decode cX4_isTurned 33 = .ok (.invokevirtual 66, 3) := by decide +kernel
theorem dX4_isTurned_36 : decode cX4_isTurned 36 = .ok (.aload_n 0, 1) := by decide +kernel
theorem dX4_isTurned_37 : decode cX4_isTurned 37 = .ok (.getfield 12, 3) := by decide +kernel
theorem dX4_isTurned_40 : decode cX4_isTurned 40 = .ok (.getfield 35, 3) := by decide +kernel
theorem dX4_isTurned_43 : decode cX4_isTurned 43 = .ok (.iload_n 1, 1) := by decide +kernel
theorem dX4_isTurned_44 : decode cX4_isTurned 44 = .ok (.iload_n 3, 1) := by decide +kernel
theorem dX4_isTurned_45 : decode cX4_isTurned 45 = .ok (.invokevirtual 55, 3) := by decide +kernel
theorem dX4_isTurned_48 : decode cX4_isTurned 48 = .ok (.if_icmp .eq 5, 3) := by decide +kernel
theorem dX4_isTurned_51 : decode cX4_isTurned 51 = .ok (.iconst 0, 1) := by decide +kernel
theorem dX4_isTurned_52 : decode cX4_isTurned 52 = .ok (.ireturn, 1) := by decide +kernel
theorem dX4_isTurned_53 : decode cX4_isTurned 53 = .ok (.iinc 3 1, 3) := by decide +kernel
theorem dX4_isTurned_56 : decode cX4_isTurned 56 = .ok (.goto (-42), 3) := by decide +kernel
theorem dX4_isTurned_59 : decode cX4_isTurned 59 = .ok (.iconst 1, 1) := by decide +kernel
theorem dX4_isTurned_60 : decode cX4_isTurned 60 = .ok (.ireturn, 1) := by decide +kernel
theorem dX5_init_0 : decode cX5_init 0 = .ok (.aload_n 0, 1) := by decide +kernel
theorem dX5_init_1 : decode cX5_init 1 = .ok (.invokespecial 3, 3) := by decide +kernel
theorem dX5_init_4 : decode cX5_init 4 = .ok (.aload_n 0, 1) := by decide +kernel
theorem dX5_init_5 : decode cX5_init 5 = .ok (.bipush 30, 2) := by decide +kernel
theorem dX5_init_7 : decode cX5_init 7 = .ok (.newarray .int, 2) := by decide +kernel
theorem dX5_init_9 : decode cX5_init 9 = .ok (.putfield 9, 3) := by decide +kernel
theorem dX5_init_12 : decode cX5_init 12 = .ok (.aload_n 0, 1) := by decide +kernel
theorem dX5_init_13 : decode cX5_init 13 = .ok (.bipush 30, 2) := by decide +kernel
theorem dX5_init_15 : decode cX5_init 15 = .ok (.newarray .int, 2) := by decide +kernel
theorem dX5_init_17 : decode cX5_init 17 = .ok (.putfield 15, 3) := by decide +kernel
theorem dX5_init_20 : decode cX5_init 20 = .ok (.aload_n 0, 1) := by decide +kernel
theorem dX5_init_21 : decode cX5_init 21 = .ok (.bipush 30, 2) := by decide +kernel
theorem dX5_init_23 : decode cX5_init 23 = .ok (.newarray .int, 2) := by decide +kernel
theorem dX5_init_25 : decode cX5_init 25 = .ok (.putfield 18, 3) := by decide +kernel
theorem dX5_init_28 : decode cX5_init 28 = .ok (.aload_n 0, 1) := by decide +kernel
theorem dX5_init_29 : decode cX5_init 29 = .ok (.bipush 9, 2) := by decide +kernel
theorem dX5_init_31 : decode cX5_init 31 = .ok (.newarray .int, 2) := by decide +kernel
theorem dX5_init_33 : decode cX5_init 33 = .ok (.putfield 21, 3) := by decide +kernel
theorem dX5_init_36 : decode cX5_init 36 = .ok (.aload_n 0, 1) := by decide +kernel
theorem dX5_init_37 : decode cX5_init 37 = .ok (.sipush 270, 3) := by decide +kernel
theorem dX5_init_40 : decode cX5_init 40 = .ok (.newarray .int, 2) := by decide +kernel
theorem dX5_init_42 : decode cX5_init 42 = .ok (.putfield 24, 3) := by decide +kernel
theorem dX5_init_45 : decode cX5_init 45 = .ok (.return_, 1) := by decide +kernel
theorem dX5_copyFrom_0 : decode cX5_copyFrom 0 = .ok (.aload_n 0, 1) := by decide +kernel
theorem dX5_copyFrom_1 : decode cX5_copyFrom 1 = .ok (.aload_n 1, 1) := by decide +kernel
theorem dX5_copyFrom_2 : decode cX5_copyFrom 2 = .ok (.getfield 27, 3) := by decide +kernel
theorem dX5_copyFrom_5 : decode cX5_copyFrom 5 = .ok (.putfield 27, 3) := by decide +kernel
theorem dX5_copyFrom_8 : decode cX5_copyFrom 8 = .ok (.aload_n 0, 1) := by decide +kernel
theorem dX5_copyFrom_9 : decode cX5_copyFrom 9 = .ok (.aload_n 1, 1) := by decide +kernel
theorem dX5_copyFrom_10 : decode cX5_copyFrom 10 = .ok (.getfield 31, 3) := by decide +kernel
theorem dX5_copyFrom_13 : decode cX5_copyFrom 13 = .ok (.putfield 31, 3) := by decide +kernel
theorem dX5_copyFrom_16 : decode cX5_copyFrom 16 = .ok (.aload_n 1, 1) := by decide +kernel
theorem dX5_copyFrom_17 : decode cX5_copyFrom 17 = .ok (.getfield 9, 3) := by decide +kernel
theorem dX5_copyFrom_20 : decode cX5_copyFrom 20 = .ok (.iconst 0, 1) := by decide +kernel
theorem dX5_copyFrom_21 : decode cX5_copyFrom 21 = .ok (.aload_n 0, 1) := by decide +kernel
theorem dX5_copyFrom_22 : decode cX5_copyFrom 22 = .ok (.getfield 9, 3) := by decide +kernel
theorem dX5_copyFrom_25 : decode cX5_copyFrom 25 = .ok (.iconst 0, 1) := by decide +kernel
theorem dX5_copyFrom_26 : decode cX5_copyFrom 26 = .ok (.bipush 30, 2) := by decide +kernel
theorem dX5_copyFrom_28 : decode cX5_copyFrom 28 = .ok (.invokestatic 34, 3) := by decide +kernel
theorem dX5_copyFrom_31 : decode cX5_copyFrom 31 = .ok (.aload_n 1, 1) := by decide +kernel
theorem dX5_copyFrom_32 : decode cX5_copyFrom 32 = .ok (.getfield 15, 3) := by decide +kernel
theorem dX5_copyFrom_35 : decode cX5_copyFrom 35 = .ok (.iconst 0, 1) := by decide +kernel
theorem dX5_copyFrom_36 : decode cX5_copyFrom 36 = .ok (.aload_n 0, 1) := by decide +kernel
theorem dX5_copyFrom_37 : decode cX5_copyFrom 37 = .ok (.getfield 15, 3) := by decide +kernel
theorem dX5_copyFrom_40 : decode cX5_copyFrom 40 = .ok (.iconst 0, 1) := by decide +kernel
theorem dX5_copyFrom_41 : decode cX5_copyFrom 41 = .ok (.bipush 30, 2) := by decide +kernel
theorem dX5_copyFrom_43 : decode cX5_copyFrom 43 = .ok (.invokestatic 34, 3) := by decide +kernel
theorem dX5_copyFrom_46 : decode cX5_copyFrom 46 = .ok (.aload_n 1, 1) := by decide +kernel
theorem dX5_copyFrom_47 : decode cX5_copyFrom 47 = .ok (.getfield 18, 3) := by decide +kernel
theorem dX5_copyFrom_50 : decode cX5_copyFrom 50 = .ok (.iconst 0, 1) := by decide +kernel
theorem dX5_copyFrom_51 : decode cX5_copyFrom 51 = .ok (.aload_n 0, 1) := by decide +kernel
theorem dX5_copyFrom_52 : decode cX5_copyFrom 52 = .ok (.getfield 18, 3) := by decide +kernel
theorem dX5_copyFrom_55 : decode cX5_copyFrom 55 = .ok (.iconst 0, 1) := by decide +kernel
theorem dX5_copyFrom_56 : decode cX5_copyFrom 56 = .ok (.bipush 30, 2) := by decide +kernel
theorem dX5_copyFrom_58 : decode cX5_copyFrom 58 = .ok (.invokestatic 34, 3) := by decide +kernel
theorem dX5_copyFrom_61 : decode cX5_copyFrom 61 = .ok (.aload_n 1, 1) := by decide +kernel
theorem dX5_copyFrom_62 : decode cX5_copyFrom 62 = .ok (.getfield 21, 3) := by decide +kernel
theorem dX5_copyFrom_65 : decode cX5_copyFrom 65 = .ok (.iconst 0, 1) := by decide +kernel
theorem dX5_copyFrom_66 : decode cX5_copyFrom 66 = .ok (.aload_n 0, 1) := by decide +kernel
theorem dX5_copyFrom_67 : decode cX5_copyFrom 67 = .ok (.getfield 21, 3) := by decide +kernel
theorem dX5_copyFrom_70 : decode cX5_copyFrom 70 = .ok (.iconst 0, 1) := by decide +kernel
theorem dX5_copyFrom_71 : decode cX5_copyFrom 71 = .ok (.bipush 9, 2) := by decide +kernel
theorem dX5_copyFrom_73 : decode cX5_copyFrom 73 = .ok (.invokestatic 34, 3) := by decide +kernel
theorem dX5_copyFrom_76 : decode cX5_copyFrom 76 = .ok (.aload_n 1, 1) := by decide +kernel
theorem dX5_copyFrom_77 : decode cX5_copyFrom 77 = .ok (.getfield 24, 3) := by decide +kernel
theorem dX5_copyFrom_80 : decode cX5_copyFrom 80 = .ok (.iconst 0, 1) := by decide +kernel
theorem dX5_copyFrom_81 : decode cX5_copyFrom 81 = .ok (.aload_n 0, 1) := by decide +kernel
theorem dX5_copyFrom_82 : decode cX5_copyFrom 82 = .ok (.getfield 24, 3) := by decide +kernel
theorem dX5_copyFrom_85 : decode cX5_copyFrom 85 = .ok (.iconst 0, 1) := by decide +kernel
theorem dX5_copyFrom_86 : decode cX5_copyFrom 86 = .ok (.sipush 270, 3) := by decide +kernel
theorem dX5_copyFrom_89 : decode cX5_copyFrom 89 = .ok (.invokestatic 34, 3) := by decide +kernel
theorem dX5_copyFrom_92 : decode cX5_copyFrom 92 = .ok (.return_, 1) := by decide +kernel
theorem dX5_add_0 : decode cX5_add 0 = .ok (.aload_n 0, 1) := by decide +kernel
theorem dX5_add_1 : decode cX5_add 1 = .ok (.getfield 9, 3) := by decide +kernel
theorem dX5_add_4 : decode cX5_add 4 = .ok (.aload_n 0, 1) := by decide +kernel
theorem dX5_add_5 : decode cX5_add 5 = .ok (.getfield 27, 3) := by decide +kernel
theorem dX5_add_8 : decode cX5_add 8 = .ok (.iload_n 2, 1) := by decide +kernel
theorem dX5_add_9 : decode cX5_add 9 = .ok (.iastore, 1) := by decide +kernel
theorem dX5_add_10 : decode cX5_add 10 = .ok (.aload_n 0, 1) := by decide +kernel
theorem dX5_add_11 : decode cX5_add 11 = .ok (.getfield 24, 3) := by decide +kernel
theorem dX5_add_14 : decode cX5_add 14 = .ok (.iload_n 1, 1) := by decide +kernel
theorem dX5_add_15 : decode cX5_add 15 = .ok (.bipush 30, 2) := by decide +kernel
theorem dX5_add_17 : decode cX5_add 17 = .ok (.imul, 1) := by decide +kernel
theorem dX5_add_18 : decode cX5_add 18 = .ok (.aload_n 0, 1) := by decide +kernel
theorem dX5_add_19 : decode cX5_add 19 = .ok (.getfield 21, 3) := by decide +kernel
theorem dX5_add_22 : decode cX5_add 22 = .ok (.iload_n 1, 1) := by decide +kernel
theorem dX5_add_23 : decode cX5_add 23 = .ok (.iaload, 1) := by decide +kernel
theorem dX5_add_24 : decode cX5_add 24 = .ok (.iadd, 1) := by decide +kernel
theorem dX5_add_25 : decode cX5_add 25 = .ok (.aload_n 0, 1) := by decide +kernel
theorem dX5_add_26 : decode cX5_add 26 = .ok (.getfield 27, 3) := by decide +kernel
theorem dX5_add_29 : decode cX5_add 29 = .ok (.iastore, 1) := by decide +kernel
theorem dX5_add_30 : decode cX5_add 30 = .ok (.aload_n 0, 1) := by decide +kernel
theorem dX5_add_31 : decode cX5_add 31 = .ok (.getfield 21, 3) := by decide +kernel
theorem dX5_add_34 : decode cX5_add 34 = .ok (.iload_n 1, 1) := by decide +kernel
theorem dX5_add_35 : decode cX5_add 35 = .ok (.dup2, 1) := by decide +kernel
theorem dX5_add_36 : decode cX5_add 36 = .ok (.iaload, 1) := by decide +kernel
theorem dX5_add_37 : decode cX5_add 37 = .ok (.iconst 1, 1) := by decide +kernel
theorem dX5_add_38 : decode cX5_add 38 = .ok (.iadd, 1) := by decide +kernel
theorem dX5_add_39 : decode cX5_add 39 = .ok (.iastore, 1) := by decide +kernel
theorem dX5_add_40 : decode cX5_add 40 = .ok (.aload_n 0, 1) := by decide +kernel
theorem dX5_add_41 : decode cX5_add 41 = .ok (.dup, 1) := by decide +kernel
theorem dX5_add_42 : decode cX5_add 42 = .ok (.getfield 27, 3) := by decide +kernel
theorem dX5_add_45 : decode cX5_add 45 = .ok (.iconst 1, 1) := by decide +kernel
theorem dX5_add_46 : decode cX5_add 46 = .ok (.iadd, 1) := by decide +kernel
theorem dX5_add_47 : decode cX5_add 47 = .ok (.putfield 27, 3) := by decide +kernel
theorem dX5_add_50 : decode cX5_add 50 = .ok (.aload_n 0, 1) := by decide +kernel
theorem dX5_add_51 : decode cX5_add 51 = .ok (.getfield 27, 3) := by decide +kernel
theorem dX5_add_54 : decode cX5_add 54 = .ok (.iconst 1, 1) := by decide +kernel
theorem dX5_add_55 : decode cX5_add 55 = .ok (.isub, 1) := by decide +kernel
theorem dX5_add_56 : decode cX5_add 56 = .ok (.ireturn, 1) := by decide +kernel
theorem dX5_manyIn_0 : decode cX5_manyIn 0 = .ok (.aload_n 0, 1) := by decide +kernel
theorem dX5_manyIn_1 : decode cX5_manyIn 1 = .ok (.getfield 21, 3) := by decide +kernel
theorem dX5_manyIn_4 : decode cX5_manyIn 4 = .ok (.iload_n 1, 1) := by decide +kernel
theorem dX5_manyIn_5 : decode cX5_manyIn 5 = .ok (.iaload, 1) := by decide +kernel
theorem dX5_manyIn_6 : decode cX5_manyIn 6 = .ok (.ireturn, 1) := by decide +kernel
theorem dX5_wagonAt_0 : decode cX5_wagonAt 0 = .ok (.iload_n 2, 1) := by decide +kernel
theorem dX5_wagonAt_1 : decode cX5_wagonAt 1 = .ok (.ifCond .lt 13, 3) := by decide +kernel
theorem dX5_wagonAt_4 : decode cX5_wagonAt 4 = .ok (.iload_n 2, 1) := by decide +kernel
theorem dX5_wagonAt_5 : decode cX5_wagonAt 5 = .ok (.aload_n 0, 1) := by decide +kernel
theorem dX5_wagonAt_6 : decode cX5_wagonAt 6 = .ok (.getfield 21, 3) := by decide +kernel
theorem dX5_wagonAt_9 : decode cX5_wagonAt 9 = .ok (.iload_n 1, 1) := by decide +kernel
theorem dX5_wagonAt_10 : decode cX5_wagonAt 10 = .ok (.iaload, 1) := by decide +kernel
theorem dX5_wagonAt_11 : decode cX5_wagonAt 11 = .ok (.if_icmp .lt 6, 3) := by decide +kernel
theorem dX5_wagonAt_14 : decode cX5_wagonAt 14 = .ok (.bipush (-6), 2) := by decide +kernel
theorem dX5_wagonAt_16 : decode cX5_wagonAt 16 = .ok (.ireturn, 1) := by decide +kernel
theorem dX5_wagonAt_17 : decode cX5_wagonAt 17 = .ok (.iload_n 1, 1) := by decide +kernel
theorem dX5_wagonAt_18 : decode cX5_wagonAt 18 = .ok (.bipush 8, 2) := by decide +kernel
theorem dX5_wagonAt_20 : decode cX5_wagonAt 20 = .ok (.if_icmp .ne 7, 3) := by decide +kernel
theorem dX5_wagonAt_23 : decode cX5_wagonAt 23 = .ok (.iload_n 2, 1) := by decide +kernel
theorem dX5_wagonAt_24 : decode cX5_wagonAt 24 = .ok (.goto 13, 3) := by decide +kernel
theorem dX5_wagonAt_27 : decode cX5_wagonAt 27 = .ok (.aload_n 0, 1) := by decide +kernel
theorem dX5_wagonAt_28 : decode cX5_wagonAt 28 = .ok (.getfield 21, 3) := by decide +kernel
theorem dX5_wagonAt_31 : decode cX5_wagonAt 31 = .ok (.iload_n 1, 1) := by decide +kernel
theorem dX5_wagonAt_32 : decode cX5_wagonAt 32 = .ok (.iaload, 1) := by decide +kernel
theorem dX5_wagonAt_33 : decode cX5_wagonAt 33 = .ok (.iconst 1, 1) := by decide +kernel
theorem dX5_wagonAt_34 : decode cX5_wagonAt 34 = .ok (.isub, 1) := by decide +kernel
theorem dX5_wagonAt_35 : decode cX5_wagonAt 35 = .ok (.iload_n 2, 1) := by decide +kernel
theorem dX5_wagonAt_36 : decode cX5_wagonAt 36 = .ok (.isub, 1) := by decide +kernel
theorem dX5_wagonAt_37 : decode cX5_wagonAt 37 = .ok (.istore_n 3, 1) := by decide +kernel
theorem dX5_wagonAt_38 : decode cX5_wagonAt 38 = .ok (.aload_n 0, 1) := by decide +kernel
theorem dX5_wagonAt_39 : decode cX5_wagonAt 39 = .ok (.getfield 24, 3) := by decide +kernel
theorem dX5_wagonAt_42 : decode cX5_wagonAt 42 = .ok (.iload_n 1, 1) := by decide +kernel
theorem dX5_wagonAt_43 : decode cX5_wagonAt 43 = .ok (.bipush 30, 2) := by decide +kernel
theorem dX5_wagonAt_45 : decode cX5_wagonAt 45 = .ok (.imul, 1) := by decide +kernel
theorem dX5_wagonAt_46 : decode cX5_wagonAt 46 = .ok (.iload_n 3, 1) := by decide +kernel
theorem dX5_wagonAt_47 : decode cX5_wagonAt 47 = .ok (.iadd, 1) := by decide +kernel
theorem dX5_wagonAt_48 : decode cX5_wagonAt 48 = .ok (.iaload, 1) := by decide +kernel
theorem dX5_wagonAt_49 : decode cX5_wagonAt 49 = .ok (.ireturn, 1) := by decide +kernel
theorem dX5_rowOf_0 : decode cX5_rowOf 0 = .ok (.iconst 0, 1) := by decide +kernel
theorem dX5_rowOf_1 : decode cX5_rowOf 1 = .ok (.istore_n 2, 1) := by decide +kernel
theorem dX5_rowOf_2 : decode cX5_rowOf 2 = .ok (.iload_n 2, 1) := by decide +kernel
theorem dX5_rowOf_3 : decode cX5_rowOf 3 = .ok (.bipush 9, 2) := by decide +kernel
theorem dX5_rowOf_5 : decode cX5_rowOf 5 = .ok (.if_icmp .ge 22, 3) := by decide +kernel
theorem dX5_rowOf_8 : decode cX5_rowOf 8 = .ok (.aload_n 0, 1) := by decide +kernel
theorem dX5_rowOf_9 : decode cX5_rowOf 9 = .ok (.iload_n 2, 1) := by decide +kernel
theorem dX5_rowOf_10 : decode cX5_rowOf 10 = .ok (.iload_n 1, 1) := by decide +kernel
theorem dX5_rowOf_11 : decode cX5_rowOf 11 = .ok (.invokevirtual 40, 3) := by decide +kernel
theorem dX5_rowOf_14 : decode cX5_rowOf 14 = .ok (.bipush (-6), 2) := by decide +kernel
theorem dX5_rowOf_16 : decode cX5_rowOf 16 = .ok (.if_icmp .eq 5, 3) := by decide +kernel
theorem dX5_rowOf_19 : decode cX5_rowOf 19 = .ok (.iload_n 2, 1) := by decide +kernel
theorem dX5_rowOf_20 : decode cX5_rowOf 20 = .ok (.ireturn, 1) := by decide +kernel
theorem dX5_rowOf_21 : decode cX5_rowOf 21 = .ok (.iinc 2 1, 3) := by decide +kernel
theorem dX5_rowOf_24 : decode cX5_rowOf 24 = .ok (.goto (-22), 3) := by decide +kernel
theorem dX5_rowOf_27 : decode cX5_rowOf 27 = .ok (.bipush (-6), 2) := by decide +kernel
theorem dX5_rowOf_29 : decode cX5_rowOf 29 = .ok (.ireturn, 1) := by decide +kernel
theorem dX5_placeIn_0 : decode cX5_placeIn 0 = .ok (.aload_n 0, 1) := by decide +kernel
theorem dX5_placeIn_1 : decode cX5_placeIn 1 = .ok (.getfield 21, 3) := by decide +kernel
theorem dX5_placeIn_4 : decode cX5_placeIn 4 = .ok (.iload_n 1, 1) := by decide +kernel
theorem dX5_placeIn_5 : decode cX5_placeIn 5 = .ok (.iaload, 1) := by decide +kernel
theorem dX5_placeIn_6 : decode cX5_placeIn 6 = .ok (.istore_n 3, 1) := by decide +kernel
theorem dX5_placeIn_7 : decode cX5_placeIn 7 = .ok (.iconst 0, 1) := by decide +kernel
theorem dX5_placeIn_8 : decode cX5_placeIn 8 = .ok (.istore 4, 2) := by decide +kernel
theorem dX5_placeIn_10 : decode cX5_placeIn 10 = .ok (.iload 4, 2) := by decide +kernel
theorem dX5_placeIn_12 : decode cX5_placeIn 12 = .ok (.iload_n 3, 1) := by decide +kernel
theorem dX5_placeIn_13 : decode cX5_placeIn 13 = .ok (.if_icmp .ge 43, 3) := by decide +kernel
theorem dX5_placeIn_16 : decode cX5_placeIn 16 = .ok (.aload_n 0, 1) := by decide +kernel
theorem dX5_placeIn_17 : decode cX5_placeIn 17 = .ok (.getfield 24, 3) := by decide +kernel
theorem dX5_placeIn_20 : decode cX5_placeIn 20 = .ok (.iload_n 1, 1) := by decide +kernel
theorem dX5_placeIn_21 : decode cX5_placeIn 21 = .ok (.bipush 30, 2) := by decide +kernel
theorem dX5_placeIn_23 : decode cX5_placeIn 23 = .ok (.imul, 1) := by decide +kernel
theorem dX5_placeIn_24 : decode cX5_placeIn 24 = .ok (.iload 4, 2) := by decide +kernel
theorem dX5_placeIn_26 : decode cX5_placeIn 26 = .ok (.iadd, 1) := by decide +kernel
theorem dX5_placeIn_27 : decode cX5_placeIn 27 = .ok (.iaload, 1) := by decide +kernel
theorem dX5_placeIn_28 : decode cX5_placeIn 28 = .ok (.iload_n 2, 1) := by decide +kernel
theorem dX5_placeIn_29 : decode cX5_placeIn 29 = .ok (.if_icmp .ne 21, 3) := by decide +kernel
theorem dX5_placeIn_32 : decode cX5_placeIn 32 = .ok (.iload_n 1, 1) := by decide +kernel
theorem dX5_placeIn_33 : decode cX5_placeIn 33 = .ok (.bipush 8, 2) := by decide +kernel
theorem dX5_placeIn_35 : decode cX5_placeIn 35 = .ok (.if_icmp .ne 8, 3) := by decide +kernel
theorem dX5_placeIn_38 : decode cX5_placeIn 38 = .ok (.iload 4, 2) := by decide +kernel
theorem dX5_placeIn_40 : decode cX5_placeIn 40 = .ok (.goto 9, 3) := by decide +kernel
theorem dX5_placeIn_43 : decode cX5_placeIn 43 = .ok (.iload_n 3, 1) := by decide +kernel
theorem dX5_placeIn_44 : decode cX5_placeIn 44 = .ok (.iconst 1, 1) := by decide +kernel
theorem dX5_placeIn_45 : decode cX5_placeIn 45 = .ok (.isub, 1) := by decide +kernel
theorem dX5_placeIn_46 : decode cX5_placeIn 46 = .ok (.iload 4, 2) := by decide +kernel
theorem dX5_placeIn_48 : decode cX5_placeIn 48 = .ok (.isub, 1) := by decide +kernel
theorem dX5_placeIn_49 : decode cX5_placeIn 49 = .ok (.ireturn, 1) := by decide +kernel
theorem dX5_placeIn_50 : decode cX5_placeIn 50 = .ok (.iinc 4 1, 3) := by decide +kernel
theorem dX5_placeIn_53 : decode cX5_placeIn 53 = .ok (.goto (-43), 3) := by decide +kernel
theorem dX5_placeIn_56 : decode cX5_placeIn 56 = .ok (.bipush (-6), 2) := by decide +kernel
theorem dX5_placeIn_58 : decode cX5_placeIn 58 = .ok (.ireturn, 1) := by decide +kernel
theorem dX5_lengthOfWagon_0 : decode cX5_lengthOfWagon 0 = .ok (.iload_n 1, 1) := by decide +kernel
theorem dX5_lengthOfWagon_1 : decode cX5_lengthOfWagon 1 = .ok (.ifCond .lt 20, 3) := by decide +kernel
theorem dX5_lengthOfWagon_4 : decode cX5_lengthOfWagon 4 = .ok (.iload_n 1, 1) := by decide +kernel
theorem dX5_lengthOfWagon_5 : decode cX5_lengthOfWagon 5 = .ok (.aload_n 0, 1) := by decide +kernel
theorem dX5_lengthOfWagon_6 : decode cX5_lengthOfWagon 6 = .ok (.getfield 27, 3) := by decide +kernel
theorem dX5_lengthOfWagon_9 : decode cX5_lengthOfWagon 9 = .ok (.if_icmp .ge 12, 3) := by decide +kernel
theorem dX5_lengthOfWagon_12 : decode cX5_lengthOfWagon 12 = .ok (.aload_n 0, 1) := by decide +kernel
theorem dX5_lengthOfWagon_13 : decode cX5_lengthOfWagon 13 = .ok (.getfield 9, 3) := by decide +kernel
theorem dX5_lengthOfWagon_16 : decode cX5_lengthOfWagon 16 = .ok (.iload_n 1, 1) := by decide +kernel
theorem dX5_lengthOfWagon_17 : decode cX5_lengthOfWagon 17 = .ok (.iaload, 1) := by decide +kernel
theorem dX5_lengthOfWagon_18 : decode cX5_lengthOfWagon 18 = .ok (.goto 4, 3) := by decide +kernel
theorem dX5_lengthOfWagon_21 : decode cX5_lengthOfWagon 21 = .ok (.iconst 0, 1) := by decide +kernel
theorem dX5_lengthOfWagon_22 : decode cX5_lengthOfWagon 22 = .ok (.ireturn, 1) := by decide +kernel
theorem dX5_lengthOfRow_0 : decode cX5_lengthOfRow 0 = .ok (.iconst 0, 1) := by decide +kernel
theorem dX5_lengthOfRow_1 : decode cX5_lengthOfRow 1 = .ok (.istore_n 2, 1) := by decide +kernel
theorem dX5_lengthOfRow_2 : decode cX5_lengthOfRow 2 = .ok (.iconst 0, 1) := by decide +kernel
theorem dX5_lengthOfRow_3 : decode cX5_lengthOfRow 3 = .ok (.istore_n 3, 1) := by decide +kernel
theorem dX5_lengthOfRow_4 : decode cX5_lengthOfRow 4 = .ok (.iload_n 3, 1) := by decide +kernel
theorem dX5_lengthOfRow_5 : decode cX5_lengthOfRow 5 = .ok (.aload_n 0, 1) := by decide +kernel
theorem dX5_lengthOfRow_6 : decode cX5_lengthOfRow 6 = .ok (.getfield 21, 3) := by decide +kernel
theorem dX5_lengthOfRow_9 : decode cX5_lengthOfRow 9 = .ok (.iload_n 1, 1) := by decide +kernel
theorem dX5_lengthOfRow_10 : decode cX5_lengthOfRow 10 = .ok (.iaload, 1) := by decide +kernel
theorem dX5_lengthOfRow_11 : decode cX5_lengthOfRow 11 = .ok (.if_icmp .ge 28, 3) := by decide +kernel
theorem dX5_lengthOfRow_14 : decode cX5_lengthOfRow 14 = .ok (.iload_n 2, 1) := by decide +kernel
theorem dX5_lengthOfRow_15 : decode cX5_lengthOfRow 15 = .ok (.aload_n 0, 1) := by decide +kernel
theorem dX5_lengthOfRow_16 : decode cX5_lengthOfRow 16 = .ok (.getfield 9, 3) := by decide +kernel
theorem dX5_lengthOfRow_19 : decode cX5_lengthOfRow 19 = .ok (.aload_n 0, 1) := by decide +kernel
theorem dX5_lengthOfRow_20 : decode cX5_lengthOfRow 20 = .ok (.getfield 24, 3) := by decide +kernel
theorem dX5_lengthOfRow_23 : decode cX5_lengthOfRow 23 = .ok (.iload_n 1, 1) := by decide +kernel
theorem dX5_lengthOfRow_24 : decode cX5_lengthOfRow 24 = .ok (.bipush 30, 2) := by decide +kernel
theorem dX5_lengthOfRow_26 : decode cX5_lengthOfRow 26 = .ok (.imul, 1) := by decide +kernel
theorem dX5_lengthOfRow_27 : decode cX5_lengthOfRow 27 = .ok (.iload_n 3, 1) := by decide +kernel
theorem dX5_lengthOfRow_28 : decode cX5_lengthOfRow 28 = .ok (.iadd, 1) := by decide +kernel
theorem dX5_lengthOfRow_29 : decode cX5_lengthOfRow 29 = .ok (.iaload, 1) := by decide +kernel
theorem dX5_lengthOfRow_30 : decode cX5_lengthOfRow 30 = .ok (.iaload, 1) := by decide +kernel
theorem dX5_lengthOfRow_31 : decode cX5_lengthOfRow 31 = .ok (.iadd, 1) := by decide +kernel
theorem dX5_lengthOfRow_32 : decode cX5_lengthOfRow 32 = .ok (.istore_n 2, 1) := by decide +kernel
theorem dX5_lengthOfRow_33 : decode cX5_lengthOfRow 33 = .ok (.iinc 3 1, 3) := by decide +kernel
theorem dX5_lengthOfRow_36 : decode cX5_lengthOfRow 36 = .ok (.goto (-32), 3) := by decide +kernel
theorem dX5_lengthOfRow_39 : decode cX5_lengthOfRow 39 = .ok (.iload_n 2, 1) := by decide +kernel
theorem dX5_lengthOfRow_40 : decode cX5_lengthOfRow 40 = .ok (.ireturn, 1) := by decide +kernel
theorem dX5_lengthOfLast_0 : decode cX5_lengthOfLast 0 = .ok (.iload_n 1, 1) := by decide +kernel
theorem dX5_lengthOfLast_1 : decode cX5_lengthOfLast 1 = .ok (.bipush 30, 2) := by decide +kernel
theorem dX5_lengthOfLast_3 : decode cX5_lengthOfLast 3 = .ok (.imul, 1) := by decide +kernel
theorem dX5_lengthOfLast_4 : decode cX5_lengthOfLast 4 = .ok (.aload_n 0, 1) := by decide +kernel
theorem dX5_lengthOfLast_5 : decode cX5_lengthOfLast 5 = .ok (.getfield 21, 3) := by decide +kernel
theorem dX5_lengthOfLast_8 : decode cX5_lengthOfLast 8 = .ok (.iload_n 1, 1) := by decide +kernel
theorem dX5_lengthOfLast_9 : decode cX5_lengthOfLast 9 = .ok (.iaload, 1) := by decide +kernel
theorem dX5_lengthOfLast_10 : decode cX5_lengthOfLast 10 = .ok (.iadd, 1) := by decide +kernel
theorem dX5_lengthOfLast_11 : decode cX5_lengthOfLast 11 = .ok (.iconst 1, 1) := by decide +kernel
theorem dX5_lengthOfLast_12 : decode cX5_lengthOfLast 12 = .ok (.isub, 1) := by decide +kernel
theorem dX5_lengthOfLast_13 : decode cX5_lengthOfLast 13 = .ok (.istore_n 3, 1) := by decide +kernel
theorem dX5_lengthOfLast_14 : decode cX5_lengthOfLast 14 = .ok (.iconst 0, 1) := by decide +kernel
theorem dX5_lengthOfLast_15 : decode cX5_lengthOfLast 15 = .ok (.istore 4, 2) := by decide +kernel
theorem dX5_lengthOfLast_17 : decode cX5_lengthOfLast 17 = .ok (.iconst 0, 1) := by decide +kernel
theorem dX5_lengthOfLast_18 : decode cX5_lengthOfLast 18 = .ok (.istore 5, 2) := by decide +kernel
theorem dX5_lengthOfLast_20 : decode cX5_lengthOfLast 20 = .ok (.iload 5, 2) := by decide +kernel
theorem dX5_lengthOfLast_22 : decode cX5_lengthOfLast 22 = .ok (.iload_n 2, 1) := by decide +kernel
theorem dX5_lengthOfLast_23 : decode cX5_lengthOfLast 23 = .ok (.if_icmp .ge 39, 3) := by decide +kernel
theorem dX5_lengthOfLast_26 : decode cX5_lengthOfLast 26 = .ok (.iload 5, 2) := by decide +kernel
theorem dX5_lengthOfLast_28 : decode cX5_lengthOfLast 28 = .ok (.aload_n 0, 1) := by decide +kernel
theorem dX5_lengthOfLast_29 : decode cX5_lengthOfLast 29 = .ok (.getfield 21, 3) := by decide +kernel
theorem dX5_lengthOfLast_32 : decode cX5_lengthOfLast 32 = .ok (.iload_n 1, 1) := by decide +kernel
theorem dX5_lengthOfLast_33 : decode cX5_lengthOfLast 33 = .ok (.iaload, 1) := by decide +kernel
theorem dX5_lengthOfLast_34 : decode cX5_lengthOfLast 34 = .ok (.if_icmp .ge 28, 3) := by decide +kernel
theorem dX5_lengthOfLast_37 : decode cX5_lengthOfLast 37 = .ok (.iload 4, 2) := by decide +kernel
theorem dX5_lengthOfLast_39 : decode cX5_lengthOfLast 39 = .ok (.aload_n 0, 1) := by decide +kernel
theorem dX5_lengthOfLast_40 : decode cX5_lengthOfLast 40 = .ok (.getfield 9, 3) := by decide +kernel
theorem dX5_lengthOfLast_43 : decode cX5_lengthOfLast 43 = .ok (.aload_n 0, 1) := by decide +kernel
theorem dX5_lengthOfLast_44 : decode cX5_lengthOfLast 44 = .ok (.getfield 24, 3) := by decide +kernel
theorem dX5_lengthOfLast_47 : decode cX5_lengthOfLast 47 = .ok (.iload_n 3, 1) := by decide +kernel
theorem dX5_lengthOfLast_48 : decode cX5_lengthOfLast 48 = .ok (.iload 5, 2) := by decide +kernel
theorem dX5_lengthOfLast_50 : decode cX5_lengthOfLast 50 = .ok (.isub, 1) := by decide +kernel
theorem dX5_lengthOfLast_51 : decode cX5_lengthOfLast 51 = .ok (.iaload, 1) := by decide +kernel
theorem dX5_lengthOfLast_52 : decode cX5_lengthOfLast 52 = .ok (.iaload, 1) := by decide +kernel
theorem dX5_lengthOfLast_53 : decode cX5_lengthOfLast 53 = .ok (.iadd, 1) := by decide +kernel
theorem dX5_lengthOfLast_54 : decode cX5_lengthOfLast 54 = .ok (.istore 4, 2) := by decide +kernel
theorem dX5_lengthOfLast_56 : decode cX5_lengthOfLast 56 = .ok (.iinc 5 1, 3) := by decide +kernel
theorem dX5_lengthOfLast_59 : decode cX5_lengthOfLast 59 = .ok (.goto (-39), 3) := by decide +kernel
theorem dX5_lengthOfLast_62 : decode cX5_lengthOfLast 62 = .ok (.iload 4, 2) := by decide +kernel
theorem dX5_lengthOfLast_64 : decode cX5_lengthOfLast 64 = .ok (.ireturn, 1) := by decide +kernel
theorem dX5_shift_0 : decode cX5_shift 0 = .ok (.iload_n 3, 1) := by decide +kernel
theorem dX5_shift_1 : decode cX5_shift 1 = .ok (.aload_n 0, 1) := by decide +kernel
theorem dX5_shift_2 : decode cX5_shift 2 = .ok (.getfield 21, 3) := by decide +kernel
theorem dX5_shift_5 : decode cX5_shift 5 = .ok (.iload_n 1, 1) := by decide +kernel
theorem dX5_shift_6 : decode cX5_shift 6 = .ok (.iaload, 1) := by decide +kernel
theorem dX5_shift_7 : decode cX5_shift 7 = .ok (.invokestatic 44, 3) := by decide +kernel
theorem dX5_shift_10 : decode cX5_shift 10 = .ok (.istore 4, 2) := by decide +kernel
theorem dX5_shift_12 : decode cX5_shift 12 = .ok (.iconst 0, 1) := by decide +kernel
theorem dX5_shift_13 : decode cX5_shift 13 = .ok (.istore 5, 2) := by decide +kernel
theorem dX5_shift_15 : decode cX5_shift 15 = .ok (.iload 5, 2) := by decide +kernel
theorem dX5_shift_17 : decode cX5_shift 17 = .ok (.iload 4, 2) := by decide +kernel
theorem dX5_shift_19 : decode cX5_shift 19 = .ok (.if_icmp .ge 61, 3) := by decide +kernel
theorem dX5_shift_22 : decode cX5_shift 22 = .ok (.aload_n 0, 1) := by decide +kernel
theorem dX5_shift_23 : decode cX5_shift 23 = .ok (.getfield 21, 3) := by decide +kernel
theorem dX5_shift_26 : decode cX5_shift 26 = .ok (.iload_n 1, 1) := by decide +kernel
theorem dX5_shift_27 : decode cX5_shift 27 = .ok (.dup2, 1) := by decide +kernel
theorem dX5_shift_28 : decode cX5_shift 28 = .ok (.iaload, 1) := by decide +kernel
theorem dX5_shift_29 : decode cX5_shift 29 = .ok (.iconst 1, 1) := by decide +kernel
theorem dX5_shift_30 : decode cX5_shift 30 = .ok (.isub, 1) := by decide +kernel
theorem dX5_shift_31 : decode cX5_shift 31 = .ok (.iastore, 1) := by decide +kernel
theorem dX5_shift_32 : decode cX5_shift 32 = .ok (.aload_n 0, 1) := by decide +kernel
theorem dX5_shift_33 : decode cX5_shift 33 = .ok (.getfield 24, 3) := by decide +kernel
theorem dX5_shift_36 : decode cX5_shift 36 = .ok (.iload_n 2, 1) := by decide +kernel
theorem dX5_shift_37 : decode cX5_shift 37 = .ok (.bipush 30, 2) := by decide +kernel
theorem dX5_shift_39 : decode cX5_shift 39 = .ok (.imul, 1) := by decide +kernel
theorem dX5_shift_40 : decode cX5_shift 40 = .ok (.aload_n 0, 1) := by decide +kernel
theorem dX5_shift_41 : decode cX5_shift 41 = .ok (.getfield 21, 3) := by decide +kernel
theorem dX5_shift_44 : decode cX5_shift 44 = .ok (.iload_n 2, 1) := by decide +kernel
theorem dX5_shift_45 : decode cX5_shift 45 = .ok (.iaload, 1) := by decide +kernel
theorem dX5_shift_46 : decode cX5_shift 46 = .ok (.iadd, 1) := by decide +kernel
theorem dX5_shift_47 : decode cX5_shift 47 = .ok (.aload_n 0, 1) := by decide +kernel
theorem dX5_shift_48 : decode cX5_shift 48 = .ok (.getfield 24, 3) := by decide +kernel
theorem dX5_shift_51 : decode cX5_shift 51 = .ok (.iload_n 1, 1) := by decide +kernel
theorem dX5_shift_52 : decode cX5_shift 52 = .ok (.bipush 30, 2) := by decide +kernel
theorem dX5_shift_54 : decode cX5_shift 54 = .ok (.imul, 1) := by decide +kernel
theorem dX5_shift_55 : decode cX5_shift 55 = .ok (.aload_n 0, 1) := by decide +kernel
theorem dX5_shift_56 : decode cX5_shift 56 = .ok (.getfield 21, 3) := by decide +kernel
theorem dX5_shift_59 : decode cX5_shift 59 = .ok (.iload_n 1, 1) := by decide +kernel
theorem dX5_shift_60 : decode cX5_shift 60 = .ok (.iaload, 1) := by decide +kernel
theorem dX5_shift_61 : decode cX5_shift 61 = .ok (.iadd, 1) := by decide +kernel
theorem dX5_shift_62 : decode cX5_shift 62 = .ok (.iaload, 1) := by decide +kernel
theorem dX5_shift_63 : decode cX5_shift 63 = .ok (.iastore, 1) := by decide +kernel
theorem dX5_shift_64 : decode cX5_shift 64 = .ok (.aload_n 0, 1) := by decide +kernel
theorem dX5_shift_65 : decode cX5_shift 65 = .ok (.getfield 21, 3) := by decide +kernel
theorem dX5_shift_68 : decode cX5_shift 68 = .ok (.iload_n 2, 1) := by decide +kernel
theorem dX5_shift_69 : decode cX5_shift 69 = .ok (.dup2, 1) := by decide +kernel
theorem dX5_shift_70 : decode cX5_shift 70 = .ok (.iaload, 1) := by decide +kernel
theorem dX5_shift_71 : decode cX5_shift 71 = .ok (.iconst 1, 1) := by decide +kernel
theorem dX5_shift_72 : decode cX5_shift 72 = .ok (.iadd, 1) := by decide +kernel
theorem dX5_shift_73 : decode cX5_shift 73 = .ok (.iastore, 1) := by decide +kernel
theorem dX5_shift_74 : decode cX5_shift 74 = .ok (.iinc 5 1, 3) := by decide +kernel
theorem dX5_shift_77 : decode cX5_shift 77 = .ok (.goto (-62), 3) := by decide +kernel
theorem dX5_shift_80 : decode cX5_shift 80 = .ok (.return_, 1) := by decide +kernel
theorem dX5_notePulled_0 : decode cX5_notePulled 0 = .ok (.sipush 240, 3) := by decide +kernel
theorem dX5_notePulled_3 : decode cX5_notePulled 3 = .ok (.aload_n 0, 1) := by decide +kernel
theorem dX5_notePulled_4 : decode cX5_notePulled 4 = .ok (.getfield 21, 3) := by decide +kernel
theorem dX5_notePulled_7 : decode cX5_notePulled 7 = .ok (.bipush 8, 2) := by decide +kernel
theorem dX5_notePulled_9 : decode cX5_notePulled 9 = .ok (.iaload, 1) := by decide +kernel
theorem dX5_notePulled_10 : decode cX5_notePulled 10 = .ok (.iadd, 1) := by decide +kernel
theorem dX5_notePulled_11 : decode cX5_notePulled 11 = .ok (.iconst 1, 1) := by decide +kernel
theorem dX5_notePulled_12 : decode cX5_notePulled 12 = .ok (.isub, 1) := by decide +kernel
theorem dX5_notePulled_13 : decode cX5_notePulled 13 = .ok (.istore_n 2, 1) := by decide +kernel
theorem dX5_notePulled_14 : decode cX5_notePulled 14 = .ok (.iconst 0, 1) := by decide +kernel
theorem dX5_notePulled_15 : decode cX5_notePulled 15 = .ok (.istore_n 3, 1) := by decide +kernel
theorem dX5_notePulled_16 : decode cX5_notePulled 16 = .ok (.iload_n 3, 1) := by decide +kernel
theorem dX5_notePulled_17 : decode cX5_notePulled 17 = .ok (.iload_n 1, 1) := by decide +kernel
theorem dX5_notePulled_18 : decode cX5_notePulled 18 = .ok (.if_icmp .ge 37, 3) := by decide +kernel
theorem dX5_notePulled_21 : decode cX5_notePulled 21 = .ok (.iload_n 3, 1) := by decide +kernel
theorem dX5_notePulled_22 : decode cX5_notePulled 22 = .ok (.aload_n 0, 1) := by decide +kernel
theorem dX5_notePulled_23 : decode cX5_notePulled 23 = .ok (.getfield 21, 3) := by decide +kernel
theorem dX5_notePulled_26 : decode cX5_notePulled 26 = .ok (.bipush 8, 2) := by decide +kernel
theorem dX5_notePulled_28 : decode cX5_notePulled 28 = .ok (.iaload, 1) := by decide +kernel
theorem dX5_notePulled_29 : decode cX5_notePulled 29 = .ok (.if_icmp .ge 26, 3) := by decide +kernel
theorem dX5_notePulled_32 : decode cX5_notePulled 32 = .ok (.aload_n 0, 1) := by decide +kernel
theorem dX5_notePulled_33 : decode cX5_notePulled 33 = .ok (.getfield 18, 3) := by decide +kernel
theorem dX5_notePulled_36 : decode cX5_notePulled 36 = .ok (.aload_n 0, 1) := by decide +kernel
theorem dX5_notePulled_37 : decode cX5_notePulled 37 = .ok (.getfield 24, 3) := by decide +kernel
theorem dX5_notePulled_40 : decode cX5_notePulled 40 = .ok (.iload_n 2, 1) := by decide +kernel
theorem dX5_notePulled_41 : decode cX5_notePulled 41 = .ok (.iload_n 3, 1) := by decide +kernel
theorem dX5_notePulled_42 : decode cX5_notePulled 42 = .ok (.isub, 1) := by decide +kernel
theorem dX5_notePulled_43 : decode cX5_notePulled 43 = .ok (.iaload, 1) := by decide +kernel
theorem dX5_notePulled_44 : decode cX5_notePulled 44 = .ok (.dup2, 1) := by decide +kernel
theorem dX5_notePulled_45 : decode cX5_notePulled 45 = .ok (.iaload, 1) := by decide +kernel
theorem dX5_notePulled_46 : decode cX5_notePulled 46 = .ok (.iconst 1, 1) := by decide +kernel
theorem dX5_notePulled_47 : decode cX5_notePulled 47 = .ok (.iadd, 1) := by decide +kernel
theorem dX5_notePulled_48 : decode cX5_notePulled 48 = .ok (.iastore, 1) := by decide +kernel
theorem dX5_notePulled_49 : decode cX5_notePulled 49 = .ok (.iinc 3 1, 3) := by decide +kernel
theorem dX5_notePulled_52 : decode cX5_notePulled 52 = .ok (.goto (-36), 3) := by decide +kernel
theorem dX5_notePulled_55 : decode cX5_notePulled 55 = .ok (.return_, 1) := by decide +kernel
theorem dX5_turnEngine_0 : decode cX5_turnEngine 0 = .ok (.sipush 240, 3) := by decide +kernel
theorem dX5_turnEngine_3 : decode cX5_turnEngine 3 = .ok (.istore_n 1, 1) := by decide +kernel
theorem dX5_turnEngine_4 : decode cX5_turnEngine 4 = .ok (.iload_n 1, 1) := by decide +kernel
theorem dX5_turnEngine_5 : decode cX5_turnEngine 5 = .ok (.aload_n 0, 1) := by decide +kernel
theorem dX5_turnEngine_6 : decode cX5_turnEngine 6 = .ok (.getfield 21, 3) := by decide +kernel
theorem dX5_turnEngine_9 : decode cX5_turnEngine 9 = .ok (.bipush 8, 2) := by decide +kernel
theorem dX5_turnEngine_11 : decode cX5_turnEngine 11 = .ok (.iaload, 1) := by decide +kernel
theorem dX5_turnEngine_12 : decode cX5_turnEngine 12 = .ok (.iadd, 1) := by decide +kernel
theorem dX5_turnEngine_13 : decode cX5_turnEngine 13 = .ok (.iconst 1, 1) := by decide +kernel
theorem dX5_turnEngine_14 : decode cX5_turnEngine 14 = .ok (.isub, 1) := by decide +kernel
theorem dX5_turnEngine_15 : decode cX5_turnEngine 15 = .ok (.istore_n 2, 1) := by decide +kernel
theorem dX5_turnEngine_16 : decode cX5_turnEngine 16 = .ok (.iconst 0, 1) := by decide +kernel
theorem dX5_turnEngine_17 : decode cX5_turnEngine 17 = .ok (.istore_n 3, 1) := by decide +kernel
theorem dX5_turnEngine_18 : decode cX5_turnEngine 18 = .ok (.iload_n 3, 1) := by decide +kernel
theorem dX5_turnEngine_19 : decode cX5_turnEngine 19 = .ok (.aload_n 0, 1) := by decide +kernel
theorem dX5_turnEngine_20 : decode cX5_turnEngine 20 = .ok (.getfield 21, 3) := by decide +kernel
theorem dX5_turnEngine_23 : decode cX5_turnEngine 23 = .ok (.bipush 8, 2) := by decide +kernel
theorem dX5_turnEngine_25 : decode cX5_turnEngine 25 = .ok (.iaload, 1) := by decide +kernel
theorem dX5_turnEngine_26 : decode cX5_turnEngine 26 = .ok (.iconst 2, 1) := by decide +kernel
theorem dX5_turnEngine_27 : decode cX5_turnEngine 27 = .ok (.idiv, 1) := by decide +kernel
theorem dX5_turnEngine_28 : decode cX5_turnEngine 28 = .ok (.if_icmp .ge 45, 3) := by decide +kernel
theorem dX5_turnEngine_31 : decode cX5_turnEngine 31 = .ok (.aload_n 0, 1) := by decide +kernel
theorem dX5_turnEngine_32 : decode cX5_turnEngine 32 = .ok (.getfield 24, 3) := by decide +kernel
theorem dX5_turnEngine_35 : decode cX5_turnEngine 35 = .ok (.iload_n 1, 1) := by decide +kernel
theorem dX5_turnEngine_36 : decode cX5_turnEngine 36 = .ok (.iload_n 3, 1) := by decide +kernel
theorem dX5_turnEngine_37 : decode cX5_turnEngine 37 = .ok (.iadd, 1) := by decide +kernel
theorem dX5_turnEngine_38 : decode cX5_turnEngine 38 = .ok (.iaload, 1) := by decide +kernel
theorem dX5_turnEngine_39 : decode cX5_turnEngine 39 = .ok (.istore 4, 2) := by decide +kernel
theorem dX5_turnEngine_41 : decode cX5_turnEngine 41 = .ok (.aload_n 0, 1) := by decide +kernel
theorem dX5_turnEngine_42 : decode cX5_turnEngine 42 = .ok (.getfield 24, 3) := by decide +kernel
theorem dX5_turnEngine_45 : decode cX5_turnEngine 45 = .ok (.iload_n 1, 1) := by decide +kernel
theorem dX5_turnEngine_46 : decode cX5_turnEngine 46 = .ok (.iload_n 3, 1) := by decide +kernel
theorem dX5_turnEngine_47 : decode cX5_turnEngine 47 = .ok (.iadd, 1) := by decide +kernel
theorem dX5_turnEngine_48 : decode cX5_turnEngine 48 = .ok (.aload_n 0, 1) := by decide +kernel
theorem dX5_turnEngine_49 : decode cX5_turnEngine 49 = .ok (.getfield 24, 3) := by decide +kernel
theorem dX5_turnEngine_52 : decode cX5_turnEngine 52 = .ok (.iload_n 2, 1) := by decide +kernel
theorem dX5_turnEngine_53 : decode cX5_turnEngine 53 = .ok (.iload_n 3, 1) := by decide +kernel
theorem dX5_turnEngine_54 : decode cX5_turnEngine 54 = .ok (.isub, 1) := by decide +kernel
theorem dX5_turnEngine_55 : decode cX5_turnEngine 55 = .ok (.iaload, 1) := by decide +kernel
theorem dX5_turnEngine_56 : decode cX5_turnEngine 56 = .ok (.iastore, 1) := by decide +kernel
theorem dX5_turnEngine_57 : decode cX5_turnEngine 57 = .ok (.aload_n 0, 1) := by decide +kernel
theorem dX5_turnEngine_58 : decode cX5_turnEngine 58 = .ok (.getfield 24, 3) := by decide +kernel
theorem dX5_turnEngine_61 : decode cX5_turnEngine 61 = .ok (.iload_n 2, 1) := by decide +kernel
theorem dX5_turnEngine_62 : decode cX5_turnEngine 62 = .ok (.iload_n 3, 1) := by decide +kernel
theorem dX5_turnEngine_63 : decode cX5_turnEngine 63 = .ok (.isub, 1) := by decide +kernel
theorem dX5_turnEngine_64 : decode cX5_turnEngine 64 = .ok (.iload 4, 2) := by decide +kernel
theorem dX5_turnEngine_66 : decode cX5_turnEngine 66 = .ok (.iastore, 1) := by decide +kernel
theorem dX5_turnEngine_67 : decode cX5_turnEngine 67 = .ok (.iinc 3 1, 3) := by decide +kernel
theorem dX5_turnEngine_70 : decode cX5_turnEngine 70 = .ok (.goto (-52), 3) := by decide +kernel
theorem dX5_turnEngine_73 : decode cX5_turnEngine 73 = .ok (.return_, 1) := by decide +kernel
theorem dX5_engineLeaves_0 : decode cX5_engineLeaves 0 = .ok (.aload_n 0, 1) := by decide +kernel
theorem dX5_engineLeaves_1 : decode cX5_engineLeaves 1 = .ok (.getfield 21, 3) := by decide +kernel
theorem dX5_engineLeaves_4 : decode cX5_engineLeaves 4 = .ok (.bipush 8, 2) := by decide +kernel
theorem dX5_engineLeaves_6 : decode cX5_engineLeaves 6 = .ok (.iaload, 1) := by decide +kernel
theorem dX5_engineLeaves_7 : decode cX5_engineLeaves 7 = .ok (.istore_n 2, 1) := by decide +kernel
theorem dX5_engineLeaves_8 : decode cX5_engineLeaves 8 = .ok (.iconst 0, 1) := by decide +kernel
theorem dX5_engineLeaves_9 : decode cX5_engineLeaves 9 = .ok (.istore_n 3, 1) := by decide +kernel
theorem dX5_engineLeaves_10 : decode cX5_engineLeaves 10 = .ok (.iload_n 3, 1) := by decide +kernel
theorem dX5_engineLeaves_11 : decode cX5_engineLeaves 11 = .ok (.iload_n 2, 1) := by decide +kernel
theorem dX5_engineLeaves_12 : decode cX5_engineLeaves 12 = .ok (.if_icmp .ge 25, 3) := by decide +kernel
theorem dX5_engineLeaves_15 : decode cX5_engineLeaves 15 = .ok (.aload_n 0, 1) := by decide +kernel
theorem dX5_engineLeaves_16 : decode cX5_engineLeaves 16 = .ok (.getfield 15, 3) := by decide +kernel
theorem dX5_engineLeaves_19 : decode cX5_engineLeaves 19 = .ok (.aload_n 0, 1) := by decide +kernel
theorem dX5_engineLeaves_20 : decode cX5_engineLeaves 20 = .ok (.getfield 24, 3) := by decide +kernel
theorem dX5_engineLeaves_23 : decode cX5_engineLeaves 23 = .ok (.sipush 240, 3) := by decide +kernel
theorem dX5_engineLeaves_26 : decode cX5_engineLeaves 26 = .ok (.iload_n 3, 1) := by decide +kernel
theorem dX5_engineLeaves_27 : decode cX5_engineLeaves 27 = .ok (.iadd, 1) := by decide +kernel
theorem dX5_engineLeaves_28 : decode cX5_engineLeaves 28 = .ok (.iaload, 1) := by decide +kernel
theorem dX5_engineLeaves_29 : decode cX5_engineLeaves 29 = .ok (.iload_n 1, 1) := by decide +kernel
theorem dX5_engineLeaves_30 : decode cX5_engineLeaves 30 = .ok (.iastore, 1) := by decide +kernel
theorem dX5_engineLeaves_31 : decode cX5_engineLeaves 31 = .ok (.iinc 3 1, 3) := by decide +kernel
theorem dX5_engineLeaves_34 : decode cX5_engineLeaves 34 = .ok (.goto (-24), 3) := by decide +kernel
theorem dX5_engineLeaves_37 : decode cX5_engineLeaves 37 = .ok (.aload_n 0, 1) := by decide +kernel
theorem dX5_engineLeaves_38 : decode cX5_engineLeaves 38 = .ok (.dup, 1) := by decide +kernel
theorem dX5_engineLeaves_39 : decode cX5_engineLeaves 39 = .ok (.getfield 31, 3) := by decide +kernel
theorem dX5_engineLeaves_42 : decode cX5_engineLeaves 42 = .ok (.iload_n 2, 1) := by decide +kernel
theorem dX5_engineLeaves_43 : decode cX5_engineLeaves 43 = .ok (.iadd, 1) := by decide +kernel
theorem dX5_engineLeaves_44 : decode cX5_engineLeaves 44 = .ok (.putfield 31, 3) := by decide +kernel
theorem dX5_engineLeaves_47 : decode cX5_engineLeaves 47 = .ok (.aload_n 0, 1) := by decide +kernel
theorem dX5_engineLeaves_48 : decode cX5_engineLeaves 48 = .ok (.getfield 21, 3) := by decide +kernel
theorem dX5_engineLeaves_51 : decode cX5_engineLeaves 51 = .ok (.bipush 8, 2) := by decide +kernel
theorem dX5_engineLeaves_53 : decode cX5_engineLeaves 53 = .ok (.iconst 0, 1) := by decide +kernel
theorem dX5_engineLeaves_54 : decode cX5_engineLeaves 54 = .ok (.iastore, 1) := by decide +kernel
theorem dX5_engineLeaves_55 : decode cX5_engineLeaves 55 = .ok (.return_, 1) := by decide +kernel
theorem dX6_init_0 : decode cX6_init 0 = .ok (.aload_n 0, 1) := by decide +kernel
theorem dX6_init_1 : decode cX6_init 1 = .ok (.invokespecial 3, 3) := by decide +kernel
theorem dX6_init_4 : decode cX6_init 4 = .ok (.aload_n 0, 1) := by decide +kernel
theorem dX6_init_5 : decode cX6_init 5 = .ok (.getstatic 9, 3) := by decide +kernel
theorem dX6_init_8 : decode cX6_init 8 = .ok (.invokevirtual 13, 3) := by decide +kernel
theorem dX6_init_11 : decode cX6_init 11 = .ok (.checkcast 14, 3) := by decide +kernel
theorem dX6_init_14 : decode cX6_init 14 = .ok (.putfield 18, 3) := by decide +kernel
theorem dX6_init_17 : decode cX6_init 17 = .ok (.aload_n 0, 1) := by decide +kernel
theorem dX6_init_18 : decode cX6_init 18 = .ok (.bipush 8, 2) := by decide +kernel
theorem dX6_init_20 : decode cX6_init 20 = .ok (.newarray .int, 2) := by decide +kernel
theorem dX6_init_22 : decode cX6_init 22 = .ok (.putfield 23, 3) := by decide +kernel
theorem dX6_init_25 : decode cX6_init 25 = .ok (.aload_n 0, 1) := by decide +kernel
theorem dX6_init_26 : decode cX6_init 26 = .ok (.bipush 8, 2) := by decide +kernel
theorem dX6_init_28 : decode cX6_init 28 = .ok (.newarray .int, 2) := by decide +kernel
theorem dX6_init_30 : decode cX6_init 30 = .ok (.putfield 26, 3) := by decide +kernel
theorem dX6_init_33 : decode cX6_init 33 = .ok (.aload_n 0, 1) := by decide +kernel
theorem dX6_init_34 : decode cX6_init 34 = .ok (.bipush 8, 2) := by decide +kernel
theorem dX6_init_36 : decode cX6_init 36 = .ok (.newarray .int, 2) := by decide +kernel
theorem dX6_init_38 : decode cX6_init 38 = .ok (.putfield 29, 3) := by decide +kernel
theorem dX6_init_41 : decode cX6_init 41 = .ok (.aload_n 0, 1) := by decide +kernel
theorem dX6_init_42 : decode cX6_init 42 = .ok (.new 32, 3) := by decide +kernel
theorem dX6_init_45 : decode cX6_init 45 = .ok (.dup, 1) := by decide +kernel
theorem dX6_init_46 : decode cX6_init 46 = .ok (.invokespecial 34, 3) := by decide +kernel
theorem dX6_init_49 : decode cX6_init 49 = .ok (.putfield 35, 3) := by decide +kernel
theorem dX6_init_52 : decode cX6_init 52 = .ok (.aload_n 0, 1) := by decide +kernel
theorem dX6_init_53 : decode cX6_init 53 = .ok (.new 39, 3) := by decide +kernel
theorem dX6_init_56 : decode cX6_init 56 = .ok (.dup, 1) := by decide +kernel
theorem dX6_init_57 : decode cX6_init 57 = .ok (.invokespecial 41, 3) := by decide +kernel
theorem dX6_init_60 : decode cX6_init 60 = .ok (.putfield 42, 3) := by decide +kernel
theorem dX6_init_63 : decode cX6_init 63 = .ok (.aload_n 0, 1) := by decide +kernel
theorem dX6_init_64 : decode cX6_init 64 = .ok (.new 46, 3) := by decide +kernel
theorem dX6_init_67 : decode cX6_init 67 = .ok (.dup, 1) := by decide +kernel
theorem dX6_init_68 : decode cX6_init 68 = .ok (.invokespecial 48, 3) := by decide +kernel
theorem dX6_init_71 : decode cX6_init 71 = .ok (.putfield 49, 3) := by decide +kernel
theorem dX6_init_74 : decode cX6_init 74 = .ok (.return_, 1) := by decide +kernel
theorem dX6_copyFrom_0 : decode cX6_copyFrom 0 = .ok (.aload_n 0, 1) := by decide +kernel
theorem dX6_copyFrom_1 : decode cX6_copyFrom 1 = .ok (.aload_n 1, 1) := by decide +kernel
theorem dX6_copyFrom_2 : decode cX6_copyFrom 2 = .ok (.getfield 53, 3) := by decide +kernel
theorem dX6_copyFrom_5 : decode cX6_copyFrom 5 = .ok (.putfield 53, 3) := by decide +kernel
theorem dX6_copyFrom_8 : decode cX6_copyFrom 8 = .ok (.aload_n 0, 1) := by decide +kernel
theorem dX6_copyFrom_9 : decode cX6_copyFrom 9 = .ok (.aload_n 1, 1) := by decide +kernel
theorem dX6_copyFrom_10 : decode cX6_copyFrom 10 = .ok (.getfield 57, 3) := by decide +kernel
theorem dX6_copyFrom_13 : decode cX6_copyFrom 13 = .ok (.putfield 57, 3) := by decide +kernel
theorem dX6_copyFrom_16 : decode cX6_copyFrom 16 = .ok (.aload_n 0, 1) := by decide +kernel
theorem dX6_copyFrom_17 : decode cX6_copyFrom 17 = .ok (.aload_n 1, 1) := by decide +kernel
theorem dX6_copyFrom_18 : decode cX6_copyFrom 18 = .ok (.getfield 60, 3) := by decide +kernel
theorem dX6_copyFrom_21 : decode cX6_copyFrom 21 = .ok (.putfield 60, 3) := by decide +kernel
theorem dX6_copyFrom_24 : decode cX6_copyFrom 24 = .ok (.aload_n 0, 1) := by decide +kernel
theorem dX6_copyFrom_25 : decode cX6_copyFrom 25 = .ok (.aload_n 1, 1) := by decide +kernel
theorem dX6_copyFrom_26 : decode cX6_copyFrom 26 = .ok (.getfield 63, 3) := by decide +kernel
theorem dX6_copyFrom_29 : decode cX6_copyFrom 29 = .ok (.putfield 63, 3) := by decide +kernel
theorem dX6_copyFrom_32 : decode cX6_copyFrom 32 = .ok (.aload_n 0, 1) := by decide +kernel
theorem dX6_copyFrom_33 : decode cX6_copyFrom 33 = .ok (.aload_n 1, 1) := by decide +kernel
theorem dX6_copyFrom_34 : decode cX6_copyFrom 34 = .ok (.getfield 66, 3) := by decide +kernel
theorem dX6_copyFrom_37 : decode cX6_copyFrom 37 = .ok (.putfield 66, 3) := by decide +kernel
theorem dX6_copyFrom_40 : decode cX6_copyFrom 40 = .ok (.aload_n 0, 1) := by decide +kernel
theorem dX6_copyFrom_41 : decode cX6_copyFrom 41 = .ok (.aload_n 1, 1) := by decide +kernel
theorem dX6_copyFrom_42 : decode cX6_copyFrom 42 = .ok (.getfield 69, 3) := by decide +kernel
theorem dX6_copyFrom_45 : decode cX6_copyFrom 45 = .ok (.putfield 69, 3) := by decide +kernel
theorem dX6_copyFrom_48 : decode cX6_copyFrom 48 = .ok (.aload_n 1, 1) := by decide +kernel
theorem dX6_copyFrom_49 : decode cX6_copyFrom 49 = .ok (.getfield 18, 3) := by decide +kernel
theorem dX6_copyFrom_52 : decode cX6_copyFrom 52 = .ok (.iconst 0, 1) := by decide +kernel
theorem dX6_copyFrom_53 : decode cX6_copyFrom 53 = .ok (.aload_n 0, 1) := by decide +kernel
theorem dX6_copyFrom_54 : decode cX6_copyFrom 54 = .ok (.getfield 18, 3) := by decide +kernel
theorem dX6_copyFrom_57 : decode cX6_copyFrom 57 = .ok (.iconst 0, 1) := by decide +kernel
theorem dX6_copyFrom_58 : decode cX6_copyFrom 58 = .ok (.bipush 6, 2) := by decide +kernel
theorem dX6_copyFrom_60 : decode cX6_copyFrom 60 = .ok (.invokestatic 72, 3) := by decide +kernel
theorem dX6_copyFrom_63 : decode cX6_copyFrom 63 = .ok (.aload_n 0, 1) := by decide +kernel
theorem dX6_copyFrom_64 : decode cX6_copyFrom 64 = .ok (.aload_n 1, 1) := by decide +kernel
theorem dX6_copyFrom_65 : decode cX6_copyFrom 65 = .ok (.getfield 78, 3) := by decide +kernel
theorem dX6_copyFrom_68 : decode cX6_copyFrom 68 = .ok (.putfield 78, 3) := by decide +kernel
theorem dX6_copyFrom_71 : decode cX6_copyFrom 71 = .ok (.aload_n 1, 1) := by decide +kernel
theorem dX6_copyFrom_72 : decode cX6_copyFrom 72 = .ok (.getfield 23, 3) := by decide +kernel
theorem dX6_copyFrom_75 : decode cX6_copyFrom 75 = .ok (.iconst 0, 1) := by decide +kernel
theorem dX6_copyFrom_76 : decode cX6_copyFrom 76 = .ok (.aload_n 0, 1) := by decide +kernel
theorem dX6_copyFrom_77 : decode cX6_copyFrom 77 = .ok (.getfield 23, 3) := by decide +kernel
theorem dX6_copyFrom_80 : decode cX6_copyFrom 80 = .ok (.iconst 0, 1) := by decide +kernel
theorem dX6_copyFrom_81 : decode cX6_copyFrom 81 = .ok (.bipush 8, 2) := by decide +kernel
theorem dX6_copyFrom_83 : decode cX6_copyFrom 83 = .ok (.invokestatic 72, 3) := by decide +kernel
theorem dX6_copyFrom_86 : decode cX6_copyFrom 86 = .ok (.aload_n 1, 1) := by decide +kernel
theorem dX6_copyFrom_87 : decode cX6_copyFrom 87 = .ok (.getfield 26, 3) := by decide +kernel
theorem dX6_copyFrom_90 : decode cX6_copyFrom 90 = .ok (.iconst 0, 1) := by decide +kernel
theorem dX6_copyFrom_91 : decode cX6_copyFrom 91 = .ok (.aload_n 0, 1) := by decide +kernel
theorem dX6_copyFrom_92 : decode cX6_copyFrom 92 = .ok (.getfield 26, 3) := by decide +kernel
theorem dX6_copyFrom_95 : decode cX6_copyFrom 95 = .ok (.iconst 0, 1) := by decide +kernel
theorem dX6_copyFrom_96 : decode cX6_copyFrom 96 = .ok (.bipush 8, 2) := by decide +kernel
theorem dX6_copyFrom_98 : decode cX6_copyFrom 98 = .ok (.invokestatic 72, 3) := by decide +kernel
theorem dX6_copyFrom_101 : decode cX6_copyFrom 101 = .ok (.aload_n 1, 1) := by decide +kernel
theorem dX6_copyFrom_102 : decode cX6_copyFrom 102 = .ok (.getfield 29, 3) := by decide +kernel
theorem dX6_copyFrom_105 : decode cX6_copyFrom 105 = .ok (.iconst 0, 1) := by decide +kernel
theorem dX6_copyFrom_106 : decode cX6_copyFrom 106 = .ok (.aload_n 0, 1) := by decide +kernel
theorem dX6_copyFrom_107 : decode cX6_copyFrom 107 = .ok (.getfield 29, 3) := by decide +kernel
theorem dX6_copyFrom_110 : decode cX6_copyFrom 110 = .ok (.iconst 0, 1) := by decide +kernel
theorem dX6_copyFrom_111 : decode cX6_copyFrom 111 = .ok (.bipush 8, 2) := by decide +kernel
theorem dX6_copyFrom_113 : decode cX6_copyFrom 113 = .ok (.invokestatic 72, 3) := by decide +kernel
theorem dX6_copyFrom_116 : decode cX6_copyFrom 116 = .ok (.aload_n 0, 1) := by decide +kernel
theorem dX6_copyFrom_117 : decode cX6_copyFrom 117 = .ok (.getfield 35, 3) := by decide +kernel
theorem dX6_copyFrom_120 : decode cX6_copyFrom 120 = .ok (.aload_n 1, 1) := by decide +kernel
theorem dX6_copyFrom_121 : decode cX6_copyFrom 121 = .ok (.getfield 35, 3) := by decide +kernel
theorem dX6_copyFrom_124 : decode cX6_copyFrom 124 = .ok (.invokevirtual 81, 3) := by decide +kernel
theorem dX6_copyFrom_127 : decode cX6_copyFrom 127 = .ok (.aload_n 0, 1) := by decide +kernel
theorem dX6_copyFrom_128 : decode cX6_copyFrom 128 = .ok (.getfield 42, 3) := by decide +kernel
theorem dX6_copyFrom_131 : decode cX6_copyFrom 131 = .ok (.aload_n 1, 1) := by decide +kernel
theorem dX6_copyFrom_132 : decode cX6_copyFrom 132 = .ok (.getfield 42, 3) := by decide +kernel
theorem dX6_copyFrom_135 : decode cX6_copyFrom 135 = .ok (.invokevirtual 85, 3) := by decide +kernel
theorem dX6_copyFrom_138 : decode cX6_copyFrom 138 = .ok (.aload_n 0, 1) := by decide +kernel
theorem dX6_copyFrom_139 : decode cX6_copyFrom 139 = .ok (.getfield 49, 3) := by decide +kernel
theorem dX6_copyFrom_142 : decode cX6_copyFrom 142 = .ok (.aload_n 1, 1) := by decide +kernel
theorem dX6_copyFrom_143 : decode cX6_copyFrom 143 = .ok (.getfield 49, 3) := by decide +kernel
theorem dX6_copyFrom_146 : decode cX6_copyFrom 146 = .ok (.invokevirtual 88, 3) := by decide +kernel
theorem dX6_copyFrom_149 : decode cX6_copyFrom 149 = .ok (.return_, 1) := by decide +kernel
theorem dX6_changeSetting_0 : decode cX6_changeSetting 0 = .ok (.iload_n 1, 1) := by decide +kernel
theorem dX6_changeSetting_1 : decode cX6_changeSetting 1 = .ok (.ifCond .lt 9, 3) := by decide +kernel
theorem dX6_changeSetting_4 : decode cX6_changeSetting 4 = .ok (.iload_n 1, 1) := by decide +kernel
theorem dX6_changeSetting_5 : decode cX6_changeSetting 5 = .ok (.bipush 6, 2) := by decide +kernel
theorem dX6_changeSetting_7 : decode cX6_changeSetting 7 = .ok (.if_icmp .lt 6, 3) := by decide +kernel
theorem dX6_changeSetting_10 : decode cX6_changeSetting 10 = .ok (.bipush (-2), 2) := by decide +kernel
theorem dX6_changeSetting_12 : decode cX6_changeSetting 12 = .ok (.ireturn, 1) := by decide +kernel
theorem dX6_changeSetting_13 : decode cX6_changeSetting 13 = .ok (.iload_n 2, 1) := by decide +kernel
theorem dX6_changeSetting_14 : decode cX6_changeSetting 14 = .ok (.getstatic 91, 3) := by decide +kernel
theorem dX6_changeSetting_17 : decode cX6_changeSetting 17 = .ok (.iload_n 1, 1) := by decide +kernel
theorem dX6_changeSetting_18 : decode cX6_changeSetting 18 = .ok (.iaload, 1) := by decide +kernel
theorem dX6_changeSetting_19 : decode cX6_changeSetting 19 = .ok (.if_icmp .lt 12, 3) := by decide +kernel
theorem dX6_changeSetting_22 : decode cX6_changeSetting 22 = .ok (.iload_n 2, 1) := by decide +kernel
theorem dX6_changeSetting_23 : decode cX6_changeSetting 23 = .ok (.getstatic 94, 3) := by decide +kernel
theorem dX6_changeSetting_26 : decode cX6_changeSetting 26 = .ok (.iload_n 1, 1) := by decide +kernel
theorem dX6_changeSetting_27 : decode cX6_changeSetting 27 = .ok (.iaload, 1) := by decide +kernel
theorem dX6_changeSetting_28 : decode cX6_changeSetting 28 = .ok (.if_icmp .le 6, 3) := by decide +kernel
theorem dX6_changeSetting_31 : decode cX6_changeSetting 31 = .ok (.bipush (-2), 2) := by decide +kernel
theorem dX6_changeSetting_33 : decode cX6_changeSetting 33 = .ok (.ireturn, 1) := by decide +kernel
theorem dX6_changeSetting_34 : decode cX6_changeSetting 34 = .ok (.aload_n 0, 1) := by decide +kernel
theorem dX6_changeSetting_35 : decode cX6_changeSetting 35 = .ok (.getfield 18, 3) := by decide +kernel
theorem dX6_changeSetting_38 : decode cX6_changeSetting 38 = .ok (.iload_n 1, 1) := by decide +kernel
theorem dX6_changeSetting_39 : decode cX6_changeSetting 39 = .ok (.iaload, 1) := by decide +kernel
theorem dX6_changeSetting_40 : decode cX6_changeSetting 40 = .ok (.istore_n 3, 1) := by decide +kernel
theorem dX6_changeSetting_41 : decode cX6_changeSetting 41 = .ok (.aload_n 0, 1) := by decide +kernel
theorem dX6_changeSetting_42 : decode cX6_changeSetting 42 = .ok (.getfield 18, 3) := by decide +kernel
theorem dX6_changeSetting_45 : decode cX6_changeSetting 45 = .ok (.iload_n 1, 1) := by decide +kernel
theorem dX6_changeSetting_46 : decode cX6_changeSetting 46 = .ok (.iload_n 2, 1) := by decide +kernel
theorem dX6_changeSetting_47 : decode cX6_changeSetting 47 = .ok (.iastore, 1) := by decide +kernel
theorem dX6_changeSetting_48 : decode cX6_changeSetting 48 = .ok (.iload_n 3, 1) := by decide +kernel
theorem dX6_changeSetting_49 : decode cX6_changeSetting 49 = .ok (.ireturn, 1) := by decide +kernel
theorem dX6_hasTrack_0 : decode cX6_hasTrack 0 = .ok (.iload_n 1, 1) := by decide +kernel
theorem dX6_hasTrack_1 : decode cX6_hasTrack 1 = .ok (.ifCond .lt 15, 3) := by decide +kernel
theorem dX6_hasTrack_4 : decode cX6_hasTrack 4 = .ok (.iload_n 1, 1) := by decide +kernel
theorem dX6_hasTrack_5 : decode cX6_hasTrack 5 = .ok (.aload_n 0, 1) := by decide +kernel
theorem dX6_hasTrack_6 : decode cX6_hasTrack 6 = .ok (.getfield 78, 3) := by decide +kernel
theorem dX6_hasTrack_9 : decode cX6_hasTrack 9 = .ok (.if_icmp .ge 7, 3) := by decide +kernel
theorem dX6_hasTrack_12 : decode cX6_hasTrack 12 = .ok (.iconst 1, 1) := by decide +kernel
theorem dX6_hasTrack_13 : decode cX6_hasTrack 13 = .ok (.goto 4, 3) := by decide +kernel
theorem dX6_hasTrack_16 : decode cX6_hasTrack 16 = .ok (.iconst 0, 1) := by decide +kernel
theorem dX6_hasTrack_17 : decode cX6_hasTrack 17 = .ok (.ireturn, 1) := by decide +kernel
theorem dX6_addTrack_0 : decode cX6_addTrack 0 = .ok (.iload_n 1, 1) := by decide +kernel
theorem dX6_addTrack_1 : decode cX6_addTrack 1 = .ok (.iconst 4, 1) := by decide +kernel
theorem dX6_addTrack_2 : decode cX6_addTrack 2 = .ok (.if_icmp .lt 9, 3) := by decide +kernel
theorem dX6_addTrack_5 : decode cX6_addTrack 5 = .ok (.iload_n 1, 1) := by decide +kernel
theorem dX6_addTrack_6 : decode cX6_addTrack 6 = .ok (.bipush 60, 2) := by decide +kernel
theorem dX6_addTrack_8 : decode cX6_addTrack 8 = .ok (.if_icmp .le 6, 3) := by decide +kernel
theorem dX6_addTrack_11 : decode cX6_addTrack 11 = .ok (.bipush (-2), 2) := by decide +kernel
theorem dX6_addTrack_13 : decode cX6_addTrack 13 = .ok (.ireturn, 1) := by decide +kernel
theorem dX6_addTrack_14 : decode cX6_addTrack 14 = .ok (.aload_n 0, 1) := by decide +kernel
theorem dX6_addTrack_15 : decode cX6_addTrack 15 = .ok (.getfield 78, 3) := by decide +kernel
theorem dX6_addTrack_18 : decode cX6_addTrack 18 = .ok (.bipush 8, 2) := by decide +kernel
theorem dX6_addTrack_20 : decode cX6_addTrack 20 = .ok (.if_icmp .lt 6, 3) := by decide +kernel
theorem dX6_addTrack_23 : decode cX6_addTrack 23 = .ok (.bipush (-4), 2) := by decide +kernel
theorem dX6_addTrack_25 : decode cX6_addTrack 25 = .ok (.ireturn, 1) := by decide +kernel
theorem dX6_addTrack_26 : decode cX6_addTrack 26 = .ok (.aload_n 0, 1) := by decide +kernel
theorem dX6_addTrack_27 : decode cX6_addTrack 27 = .ok (.getfield 23, 3) := by decide +kernel
theorem dX6_addTrack_30 : decode cX6_addTrack 30 = .ok (.aload_n 0, 1) := by decide +kernel
theorem dX6_addTrack_31 : decode cX6_addTrack 31 = .ok (.getfield 78, 3) := by decide +kernel
theorem dX6_addTrack_34 : decode cX6_addTrack 34 = .ok (.iload_n 1, 1) := by decide +kernel
theorem dX6_addTrack_35 : decode cX6_addTrack 35 = .ok (.iastore, 1) := by decide +kernel
theorem dX6_addTrack_36 : decode cX6_addTrack 36 = .ok (.aload_n 0, 1) := by decide +kernel
theorem dX6_addTrack_37 : decode cX6_addTrack 37 = .ok (.dup, 1) := by decide +kernel
theorem dX6_addTrack_38 : decode cX6_addTrack 38 = .ok (.getfield 78, 3) := by decide +kernel
theorem dX6_addTrack_41 : decode cX6_addTrack 41 = .ok (.iconst 1, 1) := by decide +kernel
theorem dX6_addTrack_42 : decode cX6_addTrack 42 = .ok (.iadd, 1) := by decide +kernel
theorem dX6_addTrack_43 : decode cX6_addTrack 43 = .ok (.putfield 78, 3) := by decide +kernel
theorem dX6_addTrack_46 : decode cX6_addTrack 46 = .ok (.aload_n 0, 1) := by decide +kernel
theorem dX6_addTrack_47 : decode cX6_addTrack 47 = .ok (.getfield 78, 3) := by decide +kernel
theorem dX6_addTrack_50 : decode cX6_addTrack 50 = .ok (.iconst 1, 1) := by decide +kernel
theorem dX6_addTrack_51 : decode cX6_addTrack 51 = .ok (.isub, 1) := by decide +kernel
theorem dX6_addTrack_52 : decode cX6_addTrack 52 = .ok (.ireturn, 1) := by decide +kernel
theorem dX6_addWagon_0 : decode cX6_addWagon 0 = .ok (.aload_n 0, 1) := by decide +kernel
theorem dX6_addWagon_1 : decode cX6_addWagon 1 = .ok (.iload_n 1, 1) := by decide +kernel
theorem dX6_addWagon_2 : decode cX6_addWagon 2 = .ok (.invokevirtual 97, 3) := by decide +kernel
theorem dX6_addWagon_5 : decode cX6_addWagon 5 = .ok (.ifCond .ne 5, 3) := by decide +kernel
theorem dX6_addWagon_8 : decode cX6_addWagon 8 = .ok (.iconst (-1), 1) := by decide +kernel
theorem dX6_addWagon_9 : decode cX6_addWagon 9 = .ok (.ireturn, 1) := by decide +kernel
theorem dX6_addWagon_10 : decode cX6_addWagon 10 = .ok (.iload_n 2, 1) := by decide +kernel
theorem dX6_addWagon_11 : decode cX6_addWagon 11 = .ok (.iconst 1, 1) := by decide +kernel
theorem dX6_addWagon_12 : decode cX6_addWagon 12 = .ok (.if_icmp .lt 8, 3) := by decide +kernel
theorem dX6_addWagon_15 : decode cX6_addWagon 15 = .ok (.iload_n 2, 1) := by decide +kernel
theorem dX6_addWagon_16 : decode cX6_addWagon 16 = .ok (.iconst 4, 1) := by decide +kernel
theorem dX6_addWagon_17 : decode cX6_addWagon 17 = .ok (.if_icmp .le 6, 3) := by decide +kernel
theorem dX6_addWagon_20 : decode cX6_addWagon 20 = .ok (.bipush (-2), 2) := by decide +kernel
theorem dX6_addWagon_22 : decode cX6_addWagon 22 = .ok (.ireturn, 1) := by decide +kernel
theorem dX6_addWagon_23 : decode cX6_addWagon 23 = .ok (.aload_n 0, 1) := by decide +kernel
theorem dX6_addWagon_24 : decode cX6_addWagon 24 = .ok (.getfield 35, 3) := by decide +kernel
theorem dX6_addWagon_27 : decode cX6_addWagon 27 = .ok (.getfield 101, 3) := by decide +kernel
theorem dX6_addWagon_30 : decode cX6_addWagon 30 = .ok (.bipush 30, 2) := by decide +kernel
theorem dX6_addWagon_32 : decode cX6_addWagon 32 = .ok (.if_icmp .lt 6, 3) := by decide +kernel
theorem dX6_addWagon_35 : decode cX6_addWagon 35 = .ok (.bipush (-4), 2) := by decide +kernel
theorem dX6_addWagon_37 : decode cX6_addWagon 37 = .ok (.ireturn, 1) := by decide +kernel
theorem dX6_addWagon_38 : decode cX6_addWagon 38 = .ok (.aload_n 0, 1) := by decide +kernel
theorem dX6_addWagon_39 : decode cX6_addWagon 39 = .ok (.getfield 35, 3) := by decide +kernel
theorem dX6_addWagon_42 : decode cX6_addWagon 42 = .ok (.iload_n 1, 1) := by decide +kernel
theorem dX6_addWagon_43 : decode cX6_addWagon 43 = .ok (.invokevirtual 104, 3) := by decide +kernel
theorem dX6_addWagon_46 : decode cX6_addWagon 46 = .ok (.iload_n 2, 1) := by decide +kernel
theorem dX6_addWagon_47 : decode cX6_addWagon 47 = .ok (.iadd, 1) := by decide +kernel
theorem dX6_addWagon_48 : decode cX6_addWagon 48 = .ok (.aload_n 0, 1) := by decide +kernel
theorem dX6_addWagon_49 : decode cX6_addWagon 49 = .ok (.getfield 23, 3) := by decide +kernel
theorem dX6_addWagon_52 : decode cX6_addWagon 52 = .ok (.iload_n 1, 1) := by decide +kernel
theorem dX6_addWagon_53 : decode cX6_addWagon 53 = .ok (.iaload, 1) := by decide +kernel
theorem dX6_addWagon_54 : decode cX6_addWagon 54 = .ok (.if_icmp .le 6, 3) := by decide +kernel
theorem dX6_addWagon_57 : decode cX6_addWagon 57 = .ok (.bipush (-5), 2) := by decide +kernel
theorem dX6_addWagon_59 : decode cX6_addWagon 59 = .ok (.ireturn, 1) := by decide +kernel
theorem dX6_addWagon_60 : decode cX6_addWagon 60 = .ok (.aload_n 0, 1) := by decide +kernel
theorem dX6_addWagon_61 : decode cX6_addWagon 61 = .ok (.getfield 35, 3) := by decide +kernel
theorem dX6_addWagon_64 : decode cX6_addWagon 64 = .ok (.iload_n 1, 1) := by decide +kernel
theorem dX6_addWagon_65 : decode cX6_addWagon 65 = .ok (.iload_n 2, 1) := by decide +kernel
theorem dX6_addWagon_66 : decode cX6_addWagon 66 = .ok (.invokevirtual 108, 3) := by decide +kernel
theorem dX6_addWagon_69 : decode cX6_addWagon 69 = .ok (.ireturn, 1) := by decide +kernel
theorem dX6_addBlock_0 : decode cX6_addBlock 0 = .ok (.iload_n 1, 1) := by decide +kernel
theorem dX6_addBlock_1 : decode cX6_addBlock 1 = .ok (.aload_n 0, 1) := by decide +kernel
theorem dX6_addBlock_2 : decode cX6_addBlock 2 = .ok (.getfield 53, 3) := by decide +kernel
theorem dX6_addBlock_5 : decode cX6_addBlock 5 = .ok (.if_icmp .lt 27, 3) := by decide +kernel
theorem dX6_addBlock_8 : decode cX6_addBlock 8 = .ok (.iload_n 1, 1) := by decide +kernel
theorem dX6_addBlock_9 : decode cX6_addBlock 9 = .ok (.aload_n 0, 1) := by decide +kernel
theorem dX6_addBlock_10 : decode cX6_addBlock 10 = .ok (.getfield 53, 3) := by decide +kernel
theorem dX6_addBlock_13 : decode cX6_addBlock 13 = .ok (.sipush 2000, 3) := by decide +kernel
theorem dX6_addBlock_16 : decode cX6_addBlock 16 = .ok (.iadd, 1) := by decide +kernel
theorem dX6_addBlock_17 : decode cX6_addBlock 17 = .ok (.if_icmp .gt 15, 3) := by decide +kernel
theorem dX6_addBlock_20 : decode cX6_addBlock 20 = .ok (.iload_n 2, 1) := by decide +kernel
theorem dX6_addBlock_21 : decode cX6_addBlock 21 = .ok (.iconst 1, 1) := by decide +kernel
theorem dX6_addBlock_22 : decode cX6_addBlock 22 = .ok (.if_icmp .lt 10, 3) := by decide +kernel
theorem dX6_addBlock_25 : decode cX6_addBlock 25 = .ok (.iload_n 2, 1) := by decide +kernel
theorem dX6_addBlock_26 : decode cX6_addBlock 26 = .ok (.sipush 500, 3) := by decide +kernel
theorem dX6_addBlock_29 : decode cX6_addBlock 29 = .ok (.if_icmp .le 6, 3) := by decide +kernel
theorem dX6_addBlock_32 : decode cX6_addBlock 32 = .ok (.bipush (-2), 2) := by decide +kernel
theorem dX6_addBlock_34 : decode cX6_addBlock 34 = .ok (.ireturn, 1) := by decide +kernel
theorem dX6_addBlock_35 : decode cX6_addBlock 35 = .ok (.aload_n 0, 1) := by decide +kernel
theorem dX6_addBlock_36 : decode cX6_addBlock 36 = .ok (.getfield 42, 3) := by decide +kernel
theorem dX6_addBlock_39 : decode cX6_addBlock 39 = .ok (.getfield 112, 3) := by decide +kernel
theorem dX6_addBlock_42 : decode cX6_addBlock 42 = .ok (.bipush 10, 2) := by decide +kernel
theorem dX6_addBlock_44 : decode cX6_addBlock 44 = .ok (.if_icmp .lt 6, 3) := by decide +kernel
theorem dX6_addBlock_47 : decode cX6_addBlock 47 = .ok (.bipush (-4), 2) := by decide +kernel
theorem dX6_addBlock_49 : decode cX6_addBlock 49 = .ok (.ireturn, 1) := by decide +kernel
theorem dX6_addBlock_50 : decode cX6_addBlock 50 = .ok (.aload_n 0, 1) := by decide +kernel
theorem dX6_addBlock_51 : decode cX6_addBlock 51 = .ok (.getfield 42, 3) := by decide +kernel
theorem dX6_addBlock_54 : decode cX6_addBlock 54 = .ok (.iload_n 1, 1) := by decide +kernel
theorem dX6_addBlock_55 : decode cX6_addBlock 55 = .ok (.iload_n 1, 1) := by decide +kernel
theorem dX6_addBlock_56 : decode cX6_addBlock 56 = .ok (.iload_n 2, 1) := by decide +kernel
theorem dX6_addBlock_57 : decode cX6_addBlock 57 = .ok (.iadd, 1) := by decide +kernel
theorem dX6_addBlock_58 : decode cX6_addBlock 58 = .ok (.invokevirtual 113, 3) := by decide +kernel
theorem dX6_addBlock_61 : decode cX6_addBlock 61 = .ok (.ireturn, 1) := by decide +kernel
theorem dX6_takeOut_0 : decode cX6_takeOut 0 = .ok (.aload_n 0, 1) := by decide +kernel
theorem dX6_takeOut_1 : decode cX6_takeOut 1 = .ok (.iload_n 1, 1) := by decide +kernel
theorem dX6_takeOut_2 : decode cX6_takeOut 2 = .ok (.invokevirtual 97, 3) := by decide +kernel
theorem dX6_takeOut_5 : decode cX6_takeOut 5 = .ok (.ifCond .ne 5, 3) := by decide +kernel
theorem dX6_takeOut_8 : decode cX6_takeOut 8 = .ok (.iconst (-1), 1) := by decide +kernel
theorem dX6_takeOut_9 : decode cX6_takeOut 9 = .ok (.ireturn, 1) := by decide +kernel
theorem dX6_takeOut_10 : decode cX6_takeOut 10 = .ok (.iload_n 2, 1) := by decide +kernel
theorem dX6_takeOut_11 : decode cX6_takeOut 11 = .ok (.iconst 1, 1) := by decide +kernel
theorem dX6_takeOut_12 : decode cX6_takeOut 12 = .ok (.if_icmp .lt 9, 3) := by decide +kernel
theorem dX6_takeOut_15 : decode cX6_takeOut 15 = .ok (.iload_n 2, 1) := by decide +kernel
theorem dX6_takeOut_16 : decode cX6_takeOut 16 = .ok (.bipush 30, 2) := by decide +kernel
theorem dX6_takeOut_18 : decode cX6_takeOut 18 = .ok (.if_icmp .le 6, 3) := by decide +kernel
theorem dX6_takeOut_21 : decode cX6_takeOut 21 = .ok (.bipush (-2), 2) := by decide +kernel
theorem dX6_takeOut_23 : decode cX6_takeOut 23 = .ok (.ireturn, 1) := by decide +kernel
theorem dX6_takeOut_24 : decode cX6_takeOut 24 = .ok (.aload_n 0, 1) := by decide +kernel
theorem dX6_takeOut_25 : decode cX6_takeOut 25 = .ok (.iload_n 1, 1) := by decide +kernel
theorem dX6_takeOut_26 : decode cX6_takeOut 26 = .ok (.iload_n 2, 1) := by decide +kernel
theorem dX6_takeOut_27 : decode cX6_takeOut 27 = .ok (.invokevirtual 114, 3) := by decide +kernel
theorem dX6_takeOut_30 : decode cX6_takeOut 30 = .ok (.ifCond .ne 6, 3) := by decide +kernel
theorem dX6_takeOut_33 : decode cX6_takeOut 33 = .ok (.bipush (-5), 2) := by decide +kernel
theorem dX6_takeOut_35 : decode cX6_takeOut 35 = .ok (.ireturn, 1) := by decide +kernel
theorem dX6_takeOut_36 : decode cX6_takeOut 36 = .ok (.aload_n 0, 1) := by decide +kernel
theorem dX6_takeOut_37 : decode cX6_takeOut 37 = .ok (.iload_n 1, 1) := by decide +kernel
theorem dX6_takeOut_38 : decode cX6_takeOut 38 = .ok (.iload_n 2, 1) := by decide +kernel
theorem dX6_takeOut_39 : decode cX6_takeOut 39 = .ok (.invokevirtual 118, 3) := by decide +kernel
theorem dX6_takeOut_42 : decode cX6_takeOut 42 = .ok (.ireturn, 1) := by decide +kernel
theorem dX6_canTakeOut_0 : decode cX6_canTakeOut 0 = .ok (.iload_n 2, 1) := by decide +kernel
theorem dX6_canTakeOut_1 : decode cX6_canTakeOut 1 = .ok (.aload_n 0, 1) := by decide +kernel
theorem dX6_canTakeOut_2 : decode cX6_canTakeOut 2 = .ok (.getfield 35, 3) := by decide +kernel
theorem dX6_canTakeOut_5 : decode cX6_canTakeOut 5 = .ok (.iload_n 1, 1) := by decide +kernel
theorem dX6_canTakeOut_6 : decode cX6_canTakeOut 6 = .ok (.invokevirtual 121, 3) := by decide +kernel
theorem dX6_canTakeOut_9 : decode cX6_canTakeOut 9 = .ok (.if_icmp .gt 35, 3) := by decide +kernel
theorem dX6_canTakeOut_12 : decode cX6_canTakeOut 12 = .ok (.aload_n 0, 1) := by decide +kernel
theorem dX6_canTakeOut_13 : decode cX6_canTakeOut 13 = .ok (.getfield 35, 3) := by decide +kernel
theorem dX6_canTakeOut_16 : decode cX6_canTakeOut 16 = .ok (.bipush 8, 2) := by decide +kernel
theorem dX6_canTakeOut_18 : decode cX6_canTakeOut 18 = .ok (.invokevirtual 104, 3) := by decide +kernel
theorem dX6_canTakeOut_21 : decode cX6_canTakeOut 21 = .ok (.aload_n 0, 1) := by decide +kernel
theorem dX6_canTakeOut_22 : decode cX6_canTakeOut 22 = .ok (.getfield 35, 3) := by decide +kernel
theorem dX6_canTakeOut_25 : decode cX6_canTakeOut 25 = .ok (.iload_n 1, 1) := by decide +kernel
theorem dX6_canTakeOut_26 : decode cX6_canTakeOut 26 = .ok (.iload_n 2, 1) := by decide +kernel
theorem dX6_canTakeOut_27 : decode cX6_canTakeOut 27 = .ok (.invokevirtual 124, 3) := by decide +kernel
theorem dX6_canTakeOut_30 : decode cX6_canTakeOut 30 = .ok (.iadd, 1) := by decide +kernel
theorem dX6_canTakeOut_31 : decode cX6_canTakeOut 31 = .ok (.aload_n 0, 1) := by decide +kernel
theorem dX6_canTakeOut_32 : decode cX6_canTakeOut 32 = .ok (.getfield 18, 3) := by decide +kernel
theorem dX6_canTakeOut_35 : decode cX6_canTakeOut 35 = .ok (.iconst 0, 1) := by decide +kernel
theorem dX6_canTakeOut_36 : decode cX6_canTakeOut 36 = .ok (.iaload, 1) := by decide +kernel
theorem dX6_canTakeOut_37 : decode cX6_canTakeOut 37 = .ok (.if_icmp .gt 7, 3) := by decide +kernel
theorem dX6_canTakeOut_40 : decode cX6_canTakeOut 40 = .ok (.iconst 1, 1) := by decide +kernel
theorem dX6_canTakeOut_41 : decode cX6_canTakeOut 41 = .ok (.goto 4, 3) := by decide +kernel
theorem dX6_canTakeOut_44 : decode cX6_canTakeOut 44 = .ok (.iconst 0, 1) := by decide +kernel
theorem dX6_canTakeOut_45 : decode cX6_canTakeOut 45 = .ok (.ireturn, 1) := by decide +kernel
theorem dX6_drawOut_0 : decode cX6_drawOut 0 = .ok (.aload_n 0, 1) := by decide +kernel
theorem dX6_drawOut_1 : decode cX6_drawOut 1 = .ok (.getfield 35, 3) := by decide +kernel
theorem dX6_drawOut_4 : decode cX6_drawOut 4 = .ok (.iload_n 1, 1) := by decide +kernel
theorem dX6_drawOut_5 : decode cX6_drawOut 5 = .ok (.bipush 8, 2) := by decide +kernel
theorem dX6_drawOut_7 : decode cX6_drawOut 7 = .ok (.iload_n 2, 1) := by decide +kernel
theorem dX6_drawOut_8 : decode cX6_drawOut 8 = .ok (.invokevirtual 127, 3) := by decide +kernel
theorem dX6_drawOut_11 : decode cX6_drawOut 11 = .ok (.aload_n 0, 1) := by decide +kernel
theorem dX6_drawOut_12 : decode cX6_drawOut 12 = .ok (.getfield 35, 3) := by decide +kernel
theorem dX6_drawOut_15 : decode cX6_drawOut 15 = .ok (.iload_n 2, 1) := by decide +kernel
theorem dX6_drawOut_16 : decode cX6_drawOut 16 = .ok (.invokevirtual 131, 3) := by decide +kernel
theorem dX6_drawOut_19 : decode cX6_drawOut 19 = .ok (.aload_n 0, 1) := by decide +kernel
theorem dX6_drawOut_20 : decode cX6_drawOut 20 = .ok (.getfield 26, 3) := by decide +kernel
theorem dX6_drawOut_23 : decode cX6_drawOut 23 = .ok (.iload_n 1, 1) := by decide +kernel
theorem dX6_drawOut_24 : decode cX6_drawOut 24 = .ok (.dup2, 1) := by decide +kernel
theorem dX6_drawOut_25 : decode cX6_drawOut 25 = .ok (.iaload, 1) := by decide +kernel
theorem dX6_drawOut_26 : decode cX6_drawOut 26 = .ok (.iload_n 2, 1) := by decide +kernel
theorem dX6_drawOut_27 : decode cX6_drawOut 27 = .ok (.iadd, 1) := by decide +kernel
theorem dX6_drawOut_28 : decode cX6_drawOut 28 = .ok (.iastore, 1) := by decide +kernel
theorem dX6_drawOut_29 : decode cX6_drawOut 29 = .ok (.aload_n 0, 1) := by decide +kernel
theorem dX6_drawOut_30 : decode cX6_drawOut 30 = .ok (.aload_n 0, 1) := by decide +kernel
theorem dX6_drawOut_31 : decode cX6_drawOut 31 = .ok (.getfield 18, 3) := by decide +kernel
theorem dX6_drawOut_34 : decode cX6_drawOut 34 = .ok (.iconst 2, 1) := by decide +kernel
theorem dX6_drawOut_35 : decode cX6_drawOut 35 = .ok (.iaload, 1) := by decide +kernel
theorem dX6_drawOut_36 : decode cX6_drawOut 36 = .ok (.aload_n 0, 1) := by decide +kernel
theorem dX6_drawOut_37 : decode cX6_drawOut 37 = .ok (.getfield 35, 3) := by decide +kernel
theorem dX6_drawOut_40 : decode cX6_drawOut 40 = .ok (.iload_n 1, 1) := by decide +kernel
theorem dX6_drawOut_41 : decode cX6_drawOut 41 = .ok (.invokevirtual 121, 3) := by decide +kernel
theorem dX6_drawOut_44 : decode cX6_drawOut 44 = .ok (.ifCond .le 7, 3) := by decide +kernel
theorem dX6_drawOut_47 : decode cX6_drawOut 47 = .ok (.iconst 2, 1) := by decide +kernel
theorem dX6_drawOut_48 : decode cX6_drawOut 48 = .ok (.goto 4, 3) := by decide +kernel
theorem dX6_drawOut_51 : decode cX6_drawOut 51 = .ok (.iconst 1, 1) := by decide +kernel
theorem dX6_drawOut_52 : decode cX6_drawOut 52 = .ok (.invokevirtual 135, 3) := by decide +kernel
theorem dX6_drawOut_55 : decode cX6_drawOut 55 = .ok (.aload_n 0, 1) := by decide +kernel
theorem dX6_drawOut_56 : decode cX6_drawOut 56 = .ok (.getfield 35, 3) := by decide +kernel
theorem dX6_drawOut_59 : decode cX6_drawOut 59 = .ok (.bipush 8, 2) := by decide +kernel
theorem dX6_drawOut_61 : decode cX6_drawOut 61 = .ok (.invokevirtual 121, 3) := by decide +kernel
theorem dX6_drawOut_64 : decode cX6_drawOut 64 = .ok (.ireturn, 1) := by decide +kernel
theorem dX6_bringIn_0 : decode cX6_bringIn 0 = .ok (.aload_n 0, 1) := by decide +kernel
theorem dX6_bringIn_1 : decode cX6_bringIn 1 = .ok (.iload_n 1, 1) := by decide +kernel
theorem dX6_bringIn_2 : decode cX6_bringIn 2 = .ok (.invokevirtual 97, 3) := by decide +kernel
theorem dX6_bringIn_5 : decode cX6_bringIn 5 = .ok (.ifCond .ne 5, 3) := by decide +kernel
theorem dX6_bringIn_8 : decode cX6_bringIn 8 = .ok (.iconst (-1), 1) := by decide +kernel
theorem dX6_bringIn_9 : decode cX6_bringIn 9 = .ok (.ireturn, 1) := by decide +kernel
theorem dX6_bringIn_10 : decode cX6_bringIn 10 = .ok (.iload_n 2, 1) := by decide +kernel
theorem dX6_bringIn_11 : decode cX6_bringIn 11 = .ok (.iconst 1, 1) := by decide +kernel
theorem dX6_bringIn_12 : decode cX6_bringIn 12 = .ok (.if_icmp .lt 9, 3) := by decide +kernel
theorem dX6_bringIn_15 : decode cX6_bringIn 15 = .ok (.iload_n 2, 1) := by decide +kernel
theorem dX6_bringIn_16 : decode cX6_bringIn 16 = .ok (.bipush 30, 2) := by decide +kernel
theorem dX6_bringIn_18 : decode cX6_bringIn 18 = .ok (.if_icmp .le 6, 3) := by decide +kernel
theorem dX6_bringIn_21 : decode cX6_bringIn 21 = .ok (.bipush (-2), 2) := by decide +kernel
theorem dX6_bringIn_23 : decode cX6_bringIn 23 = .ok (.ireturn, 1) := by decide +kernel
theorem dX6_bringIn_24 : decode cX6_bringIn 24 = .ok (.aload_n 0, 1) := by decide +kernel
theorem dX6_bringIn_25 : decode cX6_bringIn 25 = .ok (.iload_n 1, 1) := by decide +kernel
theorem dX6_bringIn_26 : decode cX6_bringIn 26 = .ok (.iload_n 2, 1) := by decide +kernel
theorem dX6_bringIn_27 : decode cX6_bringIn 27 = .ok (.invokevirtual 139, 3) := by decide +kernel
theorem dX6_bringIn_30 : decode cX6_bringIn 30 = .ok (.ifCond .ne 6, 3) := by decide +kernel
theorem dX6_bringIn_33 : decode cX6_bringIn 33 = .ok (.bipush (-5), 2) := by decide +kernel
theorem dX6_bringIn_35 : decode cX6_bringIn 35 = .ok (.ireturn, 1) := by decide +kernel
theorem dX6_bringIn_36 : decode cX6_bringIn 36 = .ok (.aload_n 0, 1) := by decide +kernel
theorem dX6_bringIn_37 : decode cX6_bringIn 37 = .ok (.getfield 35, 3) := by decide +kernel
theorem dX6_bringIn_40 : decode cX6_bringIn 40 = .ok (.iload_n 1, 1) := by decide +kernel
theorem dX6_bringIn_41 : decode cX6_bringIn 41 = .ok (.invokevirtual 121, 3) := by decide +kernel
theorem dX6_bringIn_44 : decode cX6_bringIn 44 = .ok (.ifCond .le 7, 3) := by decide +kernel
theorem dX6_bringIn_47 : decode cX6_bringIn 47 = .ok (.iconst 2, 1) := by decide +kernel
theorem dX6_bringIn_48 : decode cX6_bringIn 48 = .ok (.goto 4, 3) := by decide +kernel
theorem dX6_bringIn_51 : decode cX6_bringIn 51 = .ok (.iconst 1, 1) := by decide +kernel
theorem dX6_bringIn_52 : decode cX6_bringIn 52 = .ok (.istore_n 3, 1) := by decide +kernel
theorem dX6_bringIn_53 : decode cX6_bringIn 53 = .ok (.aload_n 0, 1) := by decide +kernel
theorem dX6_bringIn_54 : decode cX6_bringIn 54 = .ok (.getfield 35, 3) := by decide +kernel
theorem dX6_bringIn_57 : decode cX6_bringIn 57 = .ok (.bipush 8, 2) := by decide +kernel
theorem dX6_bringIn_59 : decode cX6_bringIn 59 = .ok (.iload_n 1, 1) := by decide +kernel
theorem dX6_bringIn_60 : decode cX6_bringIn 60 = .ok (.iload_n 2, 1) := by decide +kernel
theorem dX6_bringIn_61 : decode cX6_bringIn 61 = .ok (.invokevirtual 127, 3) := by decide +kernel
theorem dX6_bringIn_64 : decode cX6_bringIn 64 = .ok (.aload_n 0, 1) := by decide +kernel
theorem dX6_bringIn_65 : decode cX6_bringIn 65 = .ok (.getfield 29, 3) := by decide +kernel
theorem dX6_bringIn_68 : decode cX6_bringIn 68 = .ok (.iload_n 1, 1) := by decide +kernel
theorem dX6_bringIn_69 : decode cX6_bringIn 69 = .ok (.dup2, 1) := by decide +kernel
theorem dX6_bringIn_70 : decode cX6_bringIn 70 = .ok (.iaload, 1) := by decide +kernel
theorem dX6_bringIn_71 : decode cX6_bringIn 71 = .ok (.iload_n 2, 1) := by decide +kernel
theorem dX6_bringIn_72 : decode cX6_bringIn 72 = .ok (.iadd, 1) := by decide +kernel
theorem dX6_bringIn_73 : decode cX6_bringIn 73 = .ok (.iastore, 1) := by decide +kernel
theorem dX6_bringIn_74 : decode cX6_bringIn 74 = .ok (.aload_n 0, 1) := by decide +kernel
theorem dX6_bringIn_75 : decode cX6_bringIn 75 = .ok (.aload_n 0, 1) := by decide +kernel
theorem dX6_bringIn_76 : decode cX6_bringIn 76 = .ok (.getfield 18, 3) := by decide +kernel
theorem dX6_bringIn_79 : decode cX6_bringIn 79 = .ok (.iconst 2, 1) := by decide +kernel
theorem dX6_bringIn_80 : decode cX6_bringIn 80 = .ok (.iaload, 1) := by decide +kernel
theorem dX6_bringIn_81 : decode cX6_bringIn 81 = .ok (.iload_n 3, 1) := by decide +kernel
theorem dX6_bringIn_82 : decode cX6_bringIn 82 = .ok (.invokevirtual 135, 3) := by decide +kernel
theorem dX6_bringIn_85 : decode cX6_bringIn 85 = .ok (.aload_n 0, 1) := by decide +kernel
theorem dX6_bringIn_86 : decode cX6_bringIn 86 = .ok (.getfield 35, 3) := by decide +kernel
theorem dX6_bringIn_89 : decode cX6_bringIn 89 = .ok (.bipush 8, 2) := by decide +kernel
theorem dX6_bringIn_91 : decode cX6_bringIn 91 = .ok (.invokevirtual 121, 3) := by decide +kernel
theorem dX6_bringIn_94 : decode cX6_bringIn 94 = .ok (.ireturn, 1) := by decide +kernel
theorem dX6_canBringIn_0 : decode cX6_canBringIn 0 = .ok (.iload_n 2, 1) := by decide +kernel
theorem dX6_canBringIn_1 : decode cX6_canBringIn 1 = .ok (.aload_n 0, 1) := by decide +kernel
theorem dX6_canBringIn_2 : decode cX6_canBringIn 2 = .ok (.getfield 35, 3) := by decide +kernel
theorem dX6_canBringIn_5 : decode cX6_canBringIn 5 = .ok (.bipush 8, 2) := by decide +kernel
theorem dX6_canBringIn_7 : decode cX6_canBringIn 7 = .ok (.invokevirtual 121, 3) := by decide +kernel
theorem dX6_canBringIn_10 : decode cX6_canBringIn 10 = .ok (.if_icmp .gt 35, 3) := by decide +kernel
theorem dX6_canBringIn_13 : decode cX6_canBringIn 13 = .ok (.aload_n 0, 1) := by decide +kernel
theorem dX6_canBringIn_14 : decode cX6_canBringIn 14 = .ok (.getfield 35, 3) := by decide +kernel
theorem dX6_canBringIn_17 : decode cX6_canBringIn 17 = .ok (.iload_n 1, 1) := by decide +kernel
theorem dX6_canBringIn_18 : decode cX6_canBringIn 18 = .ok (.invokevirtual 104, 3) := by decide +kernel
theorem dX6_canBringIn_21 : decode cX6_canBringIn 21 = .ok (.aload_n 0, 1) := by decide +kernel
theorem dX6_canBringIn_22 : decode cX6_canBringIn 22 = .ok (.getfield 35, 3) := by decide +kernel
theorem dX6_canBringIn_25 : decode cX6_canBringIn 25 = .ok (.bipush 8, 2) := by decide +kernel
theorem dX6_canBringIn_27 : decode cX6_canBringIn 27 = .ok (.iload_n 2, 1) := by decide +kernel
theorem dX6_canBringIn_28 : decode cX6_canBringIn 28 = .ok (.invokevirtual 124, 3) := by decide +kernel
theorem dX6_canBringIn_31 : decode cX6_canBringIn 31 = .ok (.iadd, 1) := by decide +kernel
theorem dX6_canBringIn_32 : decode cX6_canBringIn 32 = .ok (.aload_n 0, 1) := by decide +kernel
theorem dX6_canBringIn_33 : decode cX6_canBringIn 33 = .ok (.getfield 23, 3) := by decide +kernel
theorem dX6_canBringIn_36 : decode cX6_canBringIn 36 = .ok (.iload_n 1, 1) := by decide +kernel
theorem dX6_canBringIn_37 : decode cX6_canBringIn 37 = .ok (.iaload, 1) := by decide +kernel
theorem dX6_canBringIn_38 : decode cX6_canBringIn 38 = .ok (.if_icmp .gt 7, 3) := by decide +kernel
theorem dX6_canBringIn_41 : decode cX6_canBringIn 41 = .ok (.iconst 1, 1) := by decide +kernel
theorem dX6_canBringIn_42 : decode cX6_canBringIn 42 = .ok (.goto 4, 3) := by decide +kernel
theorem dX6_canBringIn_45 : decode cX6_canBringIn 45 = .ok (.iconst 0, 1) := by decide +kernel
theorem dX6_canBringIn_46 : decode cX6_canBringIn 46 = .ok (.ireturn, 1) := by decide +kernel
theorem dX6_goRound_0 : decode cX6_goRound 0 = .ok (.aload_n 0, 1) := by decide +kernel
theorem dX6_goRound_1 : decode cX6_goRound 1 = .ok (.invokevirtual 142, 3) := by decide +kernel
theorem dX6_goRound_4 : decode cX6_goRound 4 = .ok (.ifCond .ne 6, 3) := by decide +kernel
theorem dX6_goRound_7 : decode cX6_goRound 7 = .ok (.bipush (-5), 2) := by decide +kernel
theorem dX6_goRound_9 : decode cX6_goRound 9 = .ok (.ireturn, 1) := by decide +kernel
theorem dX6_goRound_10 : decode cX6_goRound 10 = .ok (.aload_n 0, 1) := by decide +kernel
theorem dX6_goRound_11 : decode cX6_goRound 11 = .ok (.getfield 35, 3) := by decide +kernel
theorem dX6_goRound_14 : decode cX6_goRound 14 = .ok (.invokevirtual 146, 3) := by decide +kernel
theorem dX6_goRound_17 : decode cX6_goRound 17 = .ok (.aload_n 0, 1) := by decide +kernel
theorem dX6_goRound_18 : decode cX6_goRound 18 = .ok (.aload_n 0, 1) := by decide +kernel
theorem dX6_goRound_19 : decode cX6_goRound 19 = .ok (.getfield 18, 3) := by decide +kernel
theorem dX6_goRound_22 : decode cX6_goRound 22 = .ok (.iconst 4, 1) := by decide +kernel
theorem dX6_goRound_23 : decode cX6_goRound 23 = .ok (.iaload, 1) := by decide +kernel
theorem dX6_goRound_24 : decode cX6_goRound 24 = .ok (.iconst 2, 1) := by decide +kernel
theorem dX6_goRound_25 : decode cX6_goRound 25 = .ok (.invokevirtual 135, 3) := by decide +kernel
theorem dX6_goRound_28 : decode cX6_goRound 28 = .ok (.aload_n 0, 1) := by decide +kernel
theorem dX6_goRound_29 : decode cX6_goRound 29 = .ok (.getfield 53, 3) := by decide +kernel
theorem dX6_goRound_32 : decode cX6_goRound 32 = .ok (.ireturn, 1) := by decide +kernel
theorem dX6_canGoRound_0 : decode cX6_canGoRound 0 = .ok (.aload_n 0, 1) := by decide +kernel
theorem dX6_canGoRound_1 : decode cX6_canGoRound 1 = .ok (.getfield 35, 3) := by decide +kernel
theorem dX6_canGoRound_4 : decode cX6_canGoRound 4 = .ok (.bipush 8, 2) := by decide +kernel
theorem dX6_canGoRound_6 : decode cX6_canGoRound 6 = .ok (.invokevirtual 121, 3) := by decide +kernel
theorem dX6_canGoRound_9 : decode cX6_canGoRound 9 = .ok (.ifCond .le 25, 3) := by decide +kernel
theorem dX6_canGoRound_12 : decode cX6_canGoRound 12 = .ok (.aload_n 0, 1) := by decide +kernel
theorem dX6_canGoRound_13 : decode cX6_canGoRound 13 = .ok (.getfield 35, 3) := by decide +kernel
theorem dX6_canGoRound_16 : decode cX6_canGoRound 16 = .ok (.bipush 8, 2) := by decide +kernel
theorem dX6_canGoRound_18 : decode cX6_canGoRound 18 = .ok (.invokevirtual 104, 3) := by decide +kernel
theorem dX6_canGoRound_21 : decode cX6_canGoRound 21 = .ok (.aload_n 0, 1) := by decide +kernel
theorem dX6_canGoRound_22 : decode cX6_canGoRound 22 = .ok (.getfield 18, 3) := by decide +kernel
theorem dX6_canGoRound_25 : decode cX6_canGoRound 25 = .ok (.iconst 1, 1) := by decide +kernel
theorem dX6_canGoRound_26 : decode cX6_canGoRound 26 = .ok (.iaload, 1) := by decide +kernel
theorem dX6_canGoRound_27 : decode cX6_canGoRound 27 = .ok (.if_icmp .gt 7, 3) := by decide +kernel
theorem dX6_canGoRound_30 : decode cX6_canGoRound 30 = .ok (.iconst 1, 1) := by decide +kernel
theorem dX6_canGoRound_31 : decode cX6_canGoRound 31 = .ok (.goto 4, 3) := by decide +kernel
theorem dX6_canGoRound_34 : decode cX6_canGoRound 34 = .ok (.iconst 0, 1) := by decide +kernel
theorem dX6_canGoRound_35 : decode cX6_canGoRound 35 = .ok (.ireturn, 1) := by decide +kernel
theorem dX6_makeMove_0 : decode cX6_makeMove 0 = .ok (.iload_n 1, 1) := by decide +kernel
theorem dX6_makeMove_1 : decode cX6_makeMove 1 = .ok (.iload_n 2, 1) := by decide +kernel
theorem dX6_makeMove_2 : decode cX6_makeMove 2 = .ok (.aload_n 0, 1) := by decide +kernel
theorem dX6_makeMove_3 : decode cX6_makeMove 3 = .ok (.getfield 18, 3) := by decide +kernel
theorem dX6_makeMove_6 : decode cX6_makeMove 6 = .ok (.iconst 3, 1) := by decide +kernel
theorem dX6_makeMove_7 : decode cX6_makeMove 7 = .ok (.iaload, 1) := by decide +kernel
theorem dX6_makeMove_8 : decode cX6_makeMove 8 = .ok (.imul, 1) := by decide +kernel
theorem dX6_makeMove_9 : decode cX6_makeMove 9 = .ok (.iadd, 1) := by decide +kernel
theorem dX6_makeMove_10 : decode cX6_makeMove 10 = .ok (.istore_n 3, 1) := by decide +kernel
theorem dX6_makeMove_11 : decode cX6_makeMove 11 = .ok (.aload_n 0, 1) := by decide +kernel
theorem dX6_makeMove_12 : decode cX6_makeMove 12 = .ok (.getfield 42, 3) := by decide +kernel
theorem dX6_makeMove_15 : decode cX6_makeMove 15 = .ok (.aload_n 0, 1) := by decide +kernel
theorem dX6_makeMove_16 : decode cX6_makeMove 16 = .ok (.getfield 53, 3) := by decide +kernel
theorem dX6_makeMove_19 : decode cX6_makeMove 19 = .ok (.iload_n 3, 1) := by decide +kernel
theorem dX6_makeMove_20 : decode cX6_makeMove 20 = .ok (.invokevirtual 149, 3) := by decide +kernel
theorem dX6_makeMove_23 : decode cX6_makeMove 23 = .ok (.istore 4, 2) := by decide +kernel
theorem dX6_makeMove_25 : decode cX6_makeMove 25 = .ok (.aload_n 0, 1) := by decide +kernel
theorem dX6_makeMove_26 : decode cX6_makeMove 26 = .ok (.dup, 1) := by decide +kernel
theorem dX6_makeMove_27 : decode cX6_makeMove 27 = .ok (.getfield 63, 3) := by decide +kernel
theorem dX6_makeMove_30 : decode cX6_makeMove 30 = .ok (.iload 4, 2) := by decide +kernel
theorem dX6_makeMove_32 : decode cX6_makeMove 32 = .ok (.aload_n 0, 1) := by decide +kernel
theorem dX6_makeMove_33 : decode cX6_makeMove 33 = .ok (.getfield 53, 3) := by decide +kernel
theorem dX6_makeMove_36 : decode cX6_makeMove 36 = .ok (.isub, 1) := by decide +kernel
theorem dX6_makeMove_37 : decode cX6_makeMove 37 = .ok (.iadd, 1) := by decide +kernel
theorem dX6_makeMove_38 : decode cX6_makeMove 38 = .ok (.putfield 63, 3) := by decide +kernel
theorem dX6_makeMove_41 : decode cX6_makeMove 41 = .ok (.aload_n 0, 1) := by decide +kernel
theorem dX6_makeMove_42 : decode cX6_makeMove 42 = .ok (.dup, 1) := by decide +kernel
theorem dX6_makeMove_43 : decode cX6_makeMove 43 = .ok (.getfield 57, 3) := by decide +kernel
theorem dX6_makeMove_46 : decode cX6_makeMove 46 = .ok (.iload_n 2, 1) := by decide +kernel
theorem dX6_makeMove_47 : decode cX6_makeMove 47 = .ok (.iadd, 1) := by decide +kernel
theorem dX6_makeMove_48 : decode cX6_makeMove 48 = .ok (.putfield 57, 3) := by decide +kernel
theorem dX6_makeMove_51 : decode cX6_makeMove 51 = .ok (.aload_n 0, 1) := by decide +kernel
theorem dX6_makeMove_52 : decode cX6_makeMove 52 = .ok (.dup, 1) := by decide +kernel
theorem dX6_makeMove_53 : decode cX6_makeMove 53 = .ok (.getfield 60, 3) := by decide +kernel
theorem dX6_makeMove_56 : decode cX6_makeMove 56 = .ok (.iconst 1, 1) := by decide +kernel
theorem dX6_makeMove_57 : decode cX6_makeMove 57 = .ok (.iadd, 1) := by decide +kernel
theorem dX6_makeMove_58 : decode cX6_makeMove 58 = .ok (.putfield 60, 3) := by decide +kernel
theorem dX6_makeMove_61 : decode cX6_makeMove 61 = .ok (.aload_n 0, 1) := by decide +kernel
theorem dX6_makeMove_62 : decode cX6_makeMove 62 = .ok (.iload 4, 2) := by decide +kernel
theorem dX6_makeMove_64 : decode cX6_makeMove 64 = .ok (.iload_n 3, 1) := by decide +kernel
theorem dX6_makeMove_65 : decode cX6_makeMove 65 = .ok (.iadd, 1) := by decide +kernel
theorem dX6_makeMove_66 : decode cX6_makeMove 66 = .ok (.invokevirtual 152, 3) := by decide +kernel
theorem dX6_makeMove_69 : decode cX6_makeMove 69 = .ok (.return_, 1) := by decide +kernel
theorem dX6_letPass_0 : decode cX6_letPass 0 = .ok (.iload_n 1, 1) := by decide +kernel
theorem dX6_letPass_1 : decode cX6_letPass 1 = .ok (.iconst 1, 1) := by decide +kernel
theorem dX6_letPass_2 : decode cX6_letPass 2 = .ok (.if_icmp .lt 10, 3) := by decide +kernel
theorem dX6_letPass_5 : decode cX6_letPass 5 = .ok (.iload_n 1, 1) := by decide +kernel
theorem dX6_letPass_6 : decode cX6_letPass 6 = .ok (.sipush 999, 3) := by decide +kernel
theorem dX6_letPass_9 : decode cX6_letPass 9 = .ok (.if_icmp .le 6, 3) := by decide +kernel
theorem dX6_letPass_12 : decode cX6_letPass 12 = .ok (.bipush (-2), 2) := by decide +kernel
theorem dX6_letPass_14 : decode cX6_letPass 14 = .ok (.ireturn, 1) := by decide +kernel
theorem dX6_letPass_15 : decode cX6_letPass 15 = .ok (.aload_n 0, 1) := by decide +kernel
theorem dX6_letPass_16 : decode cX6_letPass 16 = .ok (.aload_n 0, 1) := by decide +kernel
theorem dX6_letPass_17 : decode cX6_letPass 17 = .ok (.getfield 53, 3) := by decide +kernel
theorem dX6_letPass_20 : decode cX6_letPass 20 = .ok (.iload_n 1, 1) := by decide +kernel
theorem dX6_letPass_21 : decode cX6_letPass 21 = .ok (.iadd, 1) := by decide +kernel
theorem dX6_letPass_22 : decode cX6_letPass 22 = .ok (.invokevirtual 152, 3) := by decide +kernel
theorem dX6_letPass_25 : decode cX6_letPass 25 = .ok (.aload_n 0, 1) := by decide +kernel
theorem dX6_letPass_26 : decode cX6_letPass 26 = .ok (.getfield 53, 3) := by decide +kernel
theorem dX6_letPass_29 : decode cX6_letPass 29 = .ok (.ireturn, 1) := by decide +kernel
theorem dX6_comeTo_0 : decode cX6_comeTo 0 = .ok (.aload_n 0, 1) := by decide +kernel
theorem dX6_comeTo_1 : decode cX6_comeTo 1 = .ok (.iload_n 1, 1) := by decide +kernel
theorem dX6_comeTo_2 : decode cX6_comeTo 2 = .ok (.putfield 53, 3) := by decide +kernel
theorem dX6_comeTo_5 : decode cX6_comeTo 5 = .ok (.aload_n 0, 1) := by decide +kernel
theorem dX6_comeTo_6 : decode cX6_comeTo 6 = .ok (.getfield 42, 3) := by decide +kernel
theorem dX6_comeTo_9 : decode cX6_comeTo 9 = .ok (.iload_n 1, 1) := by decide +kernel
theorem dX6_comeTo_10 : decode cX6_comeTo 10 = .ok (.invokevirtual 155, 3) := by decide +kernel
theorem dX6_comeTo_13 : decode cX6_comeTo 13 = .ok (.return_, 1) := by decide +kernel
theorem dX6_addTrain_0 : decode cX6_addTrain 0 = .ok (.aload_n 0, 1) := by decide +kernel
theorem dX6_addTrain_1 : decode cX6_addTrain 1 = .ok (.aload_n 1, 1) := by decide +kernel
theorem dX6_addTrain_2 : decode cX6_addTrain 2 = .ok (.iload_n 2, 1) := by decide +kernel
theorem dX6_addTrain_3 : decode cX6_addTrain 3 = .ok (.invokevirtual 158, 3) := by decide +kernel
theorem dX6_addTrain_6 : decode cX6_addTrain 6 = .ok (.ifCond .eq 23, 3) := by decide +kernel
theorem dX6_addTrain_9 : decode cX6_addTrain 9 = .ok (.iload_n 3, 1) := by decide +kernel
theorem dX6_addTrain_10 : decode cX6_addTrain 10 = .ok (.aload_n 0, 1) := by decide +kernel
theorem dX6_addTrain_11 : decode cX6_addTrain 11 = .ok (.getfield 53, 3) := by decide +kernel
theorem dX6_addTrain_14 : decode cX6_addTrain 14 = .ok (.if_icmp .lt 15, 3) := by decide +kernel
theorem dX6_addTrain_17 : decode cX6_addTrain 17 = .ok (.iload_n 3, 1) := by decide +kernel
theorem dX6_addTrain_18 : decode cX6_addTrain 18 = .ok (.aload_n 0, 1) := by decide +kernel
theorem dX6_addTrain_19 : decode cX6_addTrain 19 = .ok (.getfield 53, 3) := by decide +kernel
theorem dX6_addTrain_22 : decode cX6_addTrain 22 = .ok (.sipush 5000, 3) := by decide +kernel
theorem dX6_addTrain_25 : decode cX6_addTrain 25 = .ok (.iadd, 1) := by decide +kernel
theorem dX6_addTrain_26 : decode cX6_addTrain 26 = .ok (.if_icmp .le 6, 3) := by decide +kernel
theorem dX6_addTrain_29 : decode cX6_addTrain 29 = .ok (.bipush (-2), 2) := by decide +kernel
theorem dX6_addTrain_31 : decode cX6_addTrain 31 = .ok (.ireturn, 1) := by decide +kernel
theorem dX6_addTrain_32 : decode cX6_addTrain 32 = .ok (.aload_n 0, 1) := by decide +kernel
theorem dX6_addTrain_33 : decode cX6_addTrain 33 = .ok (.getfield 49, 3) := by decide +kernel
theorem dX6_addTrain_36 : decode cX6_addTrain 36 = .ok (.getfield 162, 3) := by decide +kernel
theorem dX6_addTrain_39 : decode cX6_addTrain 39 = .ok (.bipush 8, 2) := by decide +kernel
theorem dX6_addTrain_41 : decode cX6_addTrain 41 = .ok (.if_icmp .lt 6, 3) := by decide +kernel
theorem dX6_addTrain_44 : decode cX6_addTrain 44 = .ok (.bipush (-4), 2) := by decide +kernel
theorem dX6_addTrain_46 : decode cX6_addTrain 46 = .ok (.ireturn, 1) := by decide +kernel
theorem dX6_addTrain_47 : decode cX6_addTrain 47 = .ok (.iconst 0, 1) := by decide +kernel
theorem dX6_addTrain_48 : decode cX6_addTrain 48 = .ok (.istore 4, 2) := by decide +kernel
theorem dX6_addTrain_50 : decode cX6_addTrain 50 = .ok (.iload 4, 2) := by decide +kernel
theorem dX6_addTrain_52 : decode cX6_addTrain 52 = .ok (.iload_n 2, 1) := by decide +kernel
theorem dX6_addTrain_53 : decode cX6_addTrain 53 = .ok (.if_icmp .ge 28, 3) := by decide +kernel
theorem dX6_addTrain_56 : decode cX6_addTrain 56 = .ok (.aload_n 0, 1) := by decide +kernel
theorem dX6_addTrain_57 : decode cX6_addTrain 57 = .ok (.getfield 49, 3) := by decide +kernel
theorem dX6_addTrain_60 : decode cX6_addTrain 60 = .ok (.aload_n 1, 1) := by decide +kernel
theorem dX6_addTrain_61 : decode cX6_addTrain 61 = .ok (.iload 4, 2) := by decide +kernel
theorem dX6_addTrain_63 : decode cX6_addTrain 63 = .ok (.iaload, 1) := by decide +kernel
theorem dX6_addTrain_64 : decode cX6_addTrain 64 = .ok (.invokevirtual 165, 3) := by decide +kernel
theorem dX6_addTrain_67 : decode cX6_addTrain 67 = .ok (.bipush (-6), 2) := by decide +kernel
theorem dX6_addTrain_69 : decode cX6_addTrain 69 = .ok (.if_icmp .eq 6, 3) := by decide +kernel
theorem dX6_addTrain_72 : decode cX6_addTrain 72 = .ok (.bipush (-5), 2) := by decide +kernel
theorem dX6_addTrain_74 : decode cX6_addTrain 74 = .ok (.ireturn, 1) := by decide +kernel
theorem dX6_addTrain_75 : decode cX6_addTrain 75 = .ok (.iinc 4 1, 3) := by decide +kernel
theorem dX6_addTrain_78 : decode cX6_addTrain 78 = .ok (.goto (-28), 3) := by decide +kernel
theorem dX6_addTrain_81 : decode cX6_addTrain 81 = .ok (.aload_n 0, 1) := by decide +kernel
theorem dX6_addTrain_82 : decode cX6_addTrain 82 = .ok (.getfield 49, 3) := by decide +kernel
theorem dX6_addTrain_85 : decode cX6_addTrain 85 = .ok (.aload_n 1, 1) := by decide +kernel
theorem dX6_addTrain_86 : decode cX6_addTrain 86 = .ok (.iload_n 2, 1) := by decide +kernel
theorem dX6_addTrain_87 : decode cX6_addTrain 87 = .ok (.iload_n 3, 1) := by decide +kernel
theorem dX6_addTrain_88 : decode cX6_addTrain 88 = .ok (.invokevirtual 168, 3) := by decide +kernel
theorem dX6_addTrain_91 : decode cX6_addTrain 91 = .ok (.ireturn, 1) := by decide +kernel
theorem dX6_areThere_0 : decode cX6_areThere 0 = .ok (.iconst 0, 1) := by decide +kernel
theorem dX6_areThere_1 : decode cX6_areThere 1 = .ok (.istore_n 3, 1) := by decide +kernel
theorem dX6_areThere_2 : decode cX6_areThere 2 = .ok (.iload_n 3, 1) := by decide +kernel
theorem dX6_areThere_3 : decode cX6_areThere 3 = .ok (.iload_n 2, 1) := by decide +kernel
theorem dX6_areThere_4 : decode cX6_areThere 4 = .ok (.if_icmp .ge 53, 3) := by decide +kernel
theorem dX6_areThere_7 : decode cX6_areThere 7 = .ok (.aload_n 0, 1) := by decide +kernel
theorem dX6_areThere_8 : decode cX6_areThere 8 = .ok (.getfield 35, 3) := by decide +kernel
theorem dX6_areThere_11 : decode cX6_areThere 11 = .ok (.aload_n 1, 1) := by decide +kernel
theorem dX6_areThere_12 : decode cX6_areThere 12 = .ok (.iload_n 3, 1) := by decide +kernel
theorem dX6_areThere_13 : decode cX6_areThere 13 = .ok (.iaload, 1) := by decide +kernel
theorem dX6_areThere_14 : decode cX6_areThere 14 = .ok (.invokevirtual 171, 3) := by decide +kernel
theorem dX6_areThere_17 : decode cX6_areThere 17 = .ok (.bipush (-6), 2) := by decide +kernel
theorem dX6_areThere_19 : decode cX6_areThere 19 = .ok (.if_icmp .ne 5, 3) := by decide +kernel
theorem dX6_areThere_22 : decode cX6_areThere 22 = .ok (.iconst 0, 1) := by decide +kernel
theorem dX6_areThere_23 : decode cX6_areThere 23 = .ok (.ireturn, 1) := by decide +kernel
theorem dX6_areThere_24 : decode cX6_areThere 24 = .ok (.iconst 0, 1) := by decide +kernel
theorem dX6_areThere_25 : decode cX6_areThere 25 = .ok (.istore 4, 2) := by decide +kernel
theorem dX6_areThere_27 : decode cX6_areThere 27 = .ok (.iload 4, 2) := by decide +kernel
theorem dX6_areThere_29 : decode cX6_areThere 29 = .ok (.iload_n 3, 1) := by decide +kernel
theorem dX6_areThere_30 : decode cX6_areThere 30 = .ok (.if_icmp .ge 21, 3) := by decide +kernel
theorem dX6_areThere_33 : decode cX6_areThere 33 = .ok (.aload_n 1, 1) := by decide +kernel
theorem dX6_areThere_34 : decode cX6_areThere 34 = .ok (.iload_n 3, 1) := by decide +kernel
theorem dX6_areThere_35 : decode cX6_areThere 35 = .ok (.iaload, 1) := by decide +kernel
theorem dX6_areThere_36 : decode cX6_areThere 36 = .ok (.aload_n 1, 1) := by decide +kernel
theorem dX6_areThere_37 : decode cX6_areThere 37 = .ok (.iload 4, 2) := by decide +kernel
theorem dX6_areThere_39 : decode cX6_areThere 39 = .ok (.iaload, 1) := by decide +kernel
theorem dX6_areThere_40 : decode cX6_areThere 40 = .ok (.if_icmp .ne 5, 3) := by decide +kernel
theorem dX6_areThere_43 : decode cX6_areThere 43 = .ok (.iconst 0, 1) := by decide +kernel
theorem dX6_areThere_44 : decode cX6_areThere 44 = .ok (.ireturn, 1) := by decide +kernel
theorem dX6_areThere_45 : decode cX6_areThere 45 = .ok (.iinc 4 1, 3) := by decide +kernel
theorem dX6_areThere_48 : decode cX6_areThere 48 = .ok (.goto (-21), 3) := by decide +kernel
theorem dX6_areThere_51 : decode cX6_areThere 51 = .ok (.iinc 3 1, 3) := by decide +kernel
theorem dX6_areThere_54 : decode cX6_areThere 54 = .ok (.goto (-52), 3) := by decide +kernel
theorem dX6_areThere_57 : decode cX6_areThere 57 = .ok (.iload_n 2, 1) := by decide +kernel
theorem dX6_areThere_58 : decode cX6_areThere 58 = .ok (.ifCond .le 7, 3) := by decide +kernel
theorem dX6_areThere_61 : decode cX6_areThere 61 = .ok (.iconst 1, 1) := by decide +kernel
theorem dX6_areThere_62 : decode cX6_areThere 62 = .ok (.goto 4, 3) := by decide +kernel
theorem dX6_areThere_65 : decode cX6_areThere 65 = .ok (.iconst 0, 1) := by decide +kernel
theorem dX6_areThere_66 : decode cX6_areThere 66 = .ok (.ireturn, 1) := by decide +kernel
theorem dX6_letLeave_0 : decode cX6_letLeave 0 = .ok (.aload_n 0, 1) := by decide +kernel
theorem dX6_letLeave_1 : decode cX6_letLeave 1 = .ok (.getfield 49, 3) := by decide +kernel
theorem dX6_letLeave_4 : decode cX6_letLeave 4 = .ok (.iload_n 1, 1) := by decide +kernel
theorem dX6_letLeave_5 : decode cX6_letLeave 5 = .ok (.invokevirtual 174, 3) := by decide +kernel
theorem dX6_letLeave_8 : decode cX6_letLeave 8 = .ok (.ifCond .ne 5, 3) := by decide +kernel
theorem dX6_letLeave_11 : decode cX6_letLeave 11 = .ok (.iconst (-1), 1) := by decide +kernel
theorem dX6_letLeave_12 : decode cX6_letLeave 12 = .ok (.ireturn, 1) := by decide +kernel
theorem dX6_letLeave_13 : decode cX6_letLeave 13 = .ok (.aload_n 0, 1) := by decide +kernel
theorem dX6_letLeave_14 : decode cX6_letLeave 14 = .ok (.iload_n 1, 1) := by decide +kernel
theorem dX6_letLeave_15 : decode cX6_letLeave 15 = .ok (.invokevirtual 180, 3) := by decide +kernel
theorem dX6_letLeave_18 : decode cX6_letLeave 18 = .ok (.ifCond .ne 6, 3) := by decide +kernel
theorem dX6_letLeave_21 : decode cX6_letLeave 21 = .ok (.bipush (-5), 2) := by decide +kernel
theorem dX6_letLeave_23 : decode cX6_letLeave 23 = .ok (.ireturn, 1) := by decide +kernel
theorem dX6_letLeave_24 : decode cX6_letLeave 24 = .ok (.iconst 0, 1) := by decide +kernel
theorem dX6_letLeave_25 : decode cX6_letLeave 25 = .ok (.aload_n 0, 1) := by decide +kernel
theorem dX6_letLeave_26 : decode cX6_letLeave 26 = .ok (.getfield 53, 3) := by decide +kernel
theorem dX6_letLeave_29 : decode cX6_letLeave 29 = .ok (.aload_n 0, 1) := by decide +kernel
theorem dX6_letLeave_30 : decode cX6_letLeave 30 = .ok (.getfield 49, 3) := by decide +kernel
theorem dX6_letLeave_33 : decode cX6_letLeave 33 = .ok (.getfield 183, 3) := by decide +kernel
theorem dX6_letLeave_36 : decode cX6_letLeave 36 = .ok (.iload_n 1, 1) := by decide +kernel
theorem dX6_letLeave_37 : decode cX6_letLeave 37 = .ok (.iaload, 1) := by decide +kernel
theorem dX6_letLeave_38 : decode cX6_letLeave 38 = .ok (.isub, 1) := by decide +kernel
theorem dX6_letLeave_39 : decode cX6_letLeave 39 = .ok (.invokestatic 186, 3) := by decide +kernel
theorem dX6_letLeave_42 : decode cX6_letLeave 42 = .ok (.istore_n 2, 1) := by decide +kernel
theorem dX6_letLeave_43 : decode cX6_letLeave 43 = .ok (.aload_n 0, 1) := by decide +kernel
theorem dX6_letLeave_44 : decode cX6_letLeave 44 = .ok (.dup, 1) := by decide +kernel
theorem dX6_letLeave_45 : decode cX6_letLeave 45 = .ok (.getfield 66, 3) := by decide +kernel
theorem dX6_letLeave_48 : decode cX6_letLeave 48 = .ok (.iload_n 2, 1) := by decide +kernel
theorem dX6_letLeave_49 : decode cX6_letLeave 49 = .ok (.aload_n 0, 1) := by decide +kernel
theorem dX6_letLeave_50 : decode cX6_letLeave 50 = .ok (.getfield 18, 3) := by decide +kernel
theorem dX6_letLeave_53 : decode cX6_letLeave 53 = .ok (.iconst 5, 1) := by decide +kernel
theorem dX6_letLeave_54 : decode cX6_letLeave 54 = .ok (.iaload, 1) := by decide +kernel
theorem dX6_letLeave_55 : decode cX6_letLeave 55 = .ok (.imul, 1) := by decide +kernel
theorem dX6_letLeave_56 : decode cX6_letLeave 56 = .ok (.iadd, 1) := by decide +kernel
theorem dX6_letLeave_57 : decode cX6_letLeave 57 = .ok (.putfield 66, 3) := by decide +kernel
theorem dX6_letLeave_60 : decode cX6_letLeave 60 = .ok (.aload_n 0, 1) := by decide +kernel
theorem dX6_letLeave_61 : decode cX6_letLeave 61 = .ok (.getfield 35, 3) := by decide +kernel
theorem dX6_letLeave_64 : decode cX6_letLeave 64 = .ok (.aload_n 0, 1) := by decide +kernel
theorem dX6_letLeave_65 : decode cX6_letLeave 65 = .ok (.getfield 53, 3) := by decide +kernel
theorem dX6_letLeave_68 : decode cX6_letLeave 68 = .ok (.invokevirtual 191, 3) := by decide +kernel
theorem dX6_letLeave_71 : decode cX6_letLeave 71 = .ok (.aload_n 0, 1) := by decide +kernel
theorem dX6_letLeave_72 : decode cX6_letLeave 72 = .ok (.getfield 49, 3) := by decide +kernel
theorem dX6_letLeave_75 : decode cX6_letLeave 75 = .ok (.iload_n 1, 1) := by decide +kernel
theorem dX6_letLeave_76 : decode cX6_letLeave 76 = .ok (.invokevirtual 177, 3) := by decide +kernel
theorem dX6_letLeave_79 : decode cX6_letLeave 79 = .ok (.aload_n 0, 1) := by decide +kernel
theorem dX6_letLeave_80 : decode cX6_letLeave 80 = .ok (.dup, 1) := by decide +kernel
theorem dX6_letLeave_81 : decode cX6_letLeave 81 = .ok (.getfield 69, 3) := by decide +kernel
theorem dX6_letLeave_84 : decode cX6_letLeave 84 = .ok (.iconst 1, 1) := by decide +kernel
theorem dX6_letLeave_85 : decode cX6_letLeave 85 = .ok (.iadd, 1) := by decide +kernel
theorem dX6_letLeave_86 : decode cX6_letLeave 86 = .ok (.putfield 69, 3) := by decide +kernel
theorem dX6_letLeave_89 : decode cX6_letLeave 89 = .ok (.iload_n 2, 1) := by decide +kernel
theorem dX6_letLeave_90 : decode cX6_letLeave 90 = .ok (.ireturn, 1) := by decide +kernel
theorem dX6_couldLeave_0 : decode cX6_couldLeave 0 = .ok (.aload_n 0, 1) := by decide +kernel
theorem dX6_couldLeave_1 : decode cX6_couldLeave 1 = .ok (.getfield 49, 3) := by decide +kernel
theorem dX6_couldLeave_4 : decode cX6_couldLeave 4 = .ok (.iload_n 1, 1) := by decide +kernel
theorem dX6_couldLeave_5 : decode cX6_couldLeave 5 = .ok (.invokevirtual 194, 3) := by decide +kernel
theorem dX6_couldLeave_8 : decode cX6_couldLeave 8 = .ok (.istore_n 2, 1) := by decide +kernel
theorem dX6_couldLeave_9 : decode cX6_couldLeave 9 = .ok (.aload_n 0, 1) := by decide +kernel
theorem dX6_couldLeave_10 : decode cX6_couldLeave 10 = .ok (.getfield 35, 3) := by decide +kernel
theorem dX6_couldLeave_13 : decode cX6_couldLeave 13 = .ok (.bipush 8, 2) := by decide +kernel
theorem dX6_couldLeave_15 : decode cX6_couldLeave 15 = .ok (.invokevirtual 121, 3) := by decide +kernel
theorem dX6_couldLeave_18 : decode cX6_couldLeave 18 = .ok (.iload_n 2, 1) := by decide +kernel
theorem dX6_couldLeave_19 : decode cX6_couldLeave 19 = .ok (.if_icmp .ne 16, 3) := by decide +kernel
theorem dX6_couldLeave_22 : decode cX6_couldLeave 22 = .ok (.aload_n 0, 1) := by decide +kernel
theorem dX6_couldLeave_23 : decode cX6_couldLeave 23 = .ok (.iload_n 1, 1) := by decide +kernel
theorem dX6_couldLeave_24 : decode cX6_couldLeave 24 = .ok (.invokevirtual 197, 3) := by decide +kernel
theorem dX6_couldLeave_27 : decode cX6_couldLeave 27 = .ok (.iload_n 2, 1) := by decide +kernel
theorem dX6_couldLeave_28 : decode cX6_couldLeave 28 = .ok (.if_icmp .ne 7, 3) := by decide +kernel
theorem dX6_couldLeave_31 : decode cX6_couldLeave 31 = .ok (.iconst 1, 1) := by decide +kernel
theorem dX6_couldLeave_32 : decode cX6_couldLeave 32 = .ok (.goto 4, 3) := by decide +kernel
theorem dX6_couldLeave_35 : decode cX6_couldLeave 35 = .ok (.iconst 0, 1) := by decide +kernel
theorem dX6_couldLeave_36 : decode cX6_couldLeave 36 = .ok (.ireturn, 1) := by decide +kernel
theorem dX6_manyAlike_0 : decode cX6_manyAlike 0 = .ok (.aload_n 0, 1) := by decide +kernel
theorem dX6_manyAlike_1 : decode cX6_manyAlike 1 = .ok (.getfield 35, 3) := by decide +kernel
theorem dX6_manyAlike_4 : decode cX6_manyAlike 4 = .ok (.bipush 8, 2) := by decide +kernel
theorem dX6_manyAlike_6 : decode cX6_manyAlike 6 = .ok (.invokevirtual 121, 3) := by decide +kernel
theorem dX6_manyAlike_9 : decode cX6_manyAlike 9 = .ok (.aload_n 0, 1) := by decide +kernel
theorem dX6_manyAlike_10 : decode cX6_manyAlike 10 = .ok (.getfield 49, 3) := by decide +kernel
theorem dX6_manyAlike_13 : decode cX6_manyAlike 13 = .ok (.iload_n 1, 1) := by decide +kernel
theorem dX6_manyAlike_14 : decode cX6_manyAlike 14 = .ok (.invokevirtual 194, 3) := by decide +kernel
theorem dX6_manyAlike_17 : decode cX6_manyAlike 17 = .ok (.invokestatic 200, 3) := by decide +kernel
theorem dX6_manyAlike_20 : decode cX6_manyAlike 20 = .ok (.istore_n 2, 1) := by decide +kernel
theorem dX6_manyAlike_21 : decode cX6_manyAlike 21 = .ok (.iconst 0, 1) := by decide +kernel
theorem dX6_manyAlike_22 : decode cX6_manyAlike 22 = .ok (.istore_n 3, 1) := by decide +kernel
theorem dX6_manyAlike_23 : decode cX6_manyAlike 23 = .ok (.iload_n 3, 1) := by decide +kernel
theorem dX6_manyAlike_24 : decode cX6_manyAlike 24 = .ok (.iload_n 2, 1) := by decide +kernel
theorem dX6_manyAlike_25 : decode cX6_manyAlike 25 = .ok (.if_icmp .ge 33, 3) := by decide +kernel
theorem dX6_manyAlike_28 : decode cX6_manyAlike 28 = .ok (.aload_n 0, 1) := by decide +kernel
theorem dX6_manyAlike_29 : decode cX6_manyAlike 29 = .ok (.getfield 35, 3) := by decide +kernel
theorem dX6_manyAlike_32 : decode cX6_manyAlike 32 = .ok (.bipush 8, 2) := by decide +kernel
theorem dX6_manyAlike_34 : decode cX6_manyAlike 34 = .ok (.iload_n 3, 1) := by decide +kernel
theorem dX6_manyAlike_35 : decode cX6_manyAlike 35 = .ok (.invokevirtual 203, 3) := by decide +kernel
theorem dX6_manyAlike_38 : decode cX6_manyAlike 38 = .ok (.aload_n 0, 1) := by decide +kernel
theorem dX6_manyAlike_39 : decode cX6_manyAlike 39 = .ok (.getfield 49, 3) := by decide +kernel
theorem dX6_manyAlike_42 : decode cX6_manyAlike 42 = .ok (.iload_n 1, 1) := by decide +kernel
theorem dX6_manyAlike_43 : decode cX6_manyAlike 43 = .ok (.iload_n 3, 1) := by decide +kernel
theorem dX6_manyAlike_44 : decode cX6_manyAlike 44 = .ok (.invokevirtual 206, 3) := by decide +kernel
theorem dX6_manyAlike_47 : decode cX6_manyAlike 47 = .ok (.if_icmp .eq 5, 3) := by decide +kernel
theorem dX6_manyAlike_50 : decode cX6_manyAlike 50 = .ok (.iload_n 3, 1) := by decide +kernel
theorem dX6_manyAlike_51 : decode cX6_manyAlike 51 = .ok (.ireturn, 1) := by decide +kernel
theorem dX6_manyAlike_52 : decode cX6_manyAlike 52 = .ok (.iinc 3 1, 3) := by decide +kernel
theorem dX6_manyAlike_55 : decode cX6_manyAlike 55 = .ok (.goto (-32), 3) := by decide +kernel
theorem dX6_manyAlike_58 : decode cX6_manyAlike 58 = .ok (.iload_n 2, 1) := by decide +kernel
theorem dX6_manyAlike_59 : decode cX6_manyAlike 59 = .ok (.ireturn, 1) := by decide +kernel
theorem dX6_aboutTrack_0 : decode cX6_aboutTrack 0 = .ok (.aload_n 0, 1) := by decide +kernel
theorem dX6_aboutTrack_1 : decode cX6_aboutTrack 1 = .ok (.iload_n 1, 1) := by decide +kernel
theorem dX6_aboutTrack_2 : decode cX6_aboutTrack 2 = .ok (.invokevirtual 97, 3) := by decide +kernel
theorem dX6_aboutTrack_5 : decode cX6_aboutTrack 5 = .ok (.ifCond .ne 5, 3) := by decide +kernel
theorem dX6_aboutTrack_8 : decode cX6_aboutTrack 8 = .ok (.iconst (-1), 1) := by decide +kernel
theorem dX6_aboutTrack_9 : decode cX6_aboutTrack 9 = .ok (.ireturn, 1) := by decide +kernel
theorem dX6_aboutTrack_10 : decode cX6_aboutTrack 10 = .ok (.iload_n 2, 1) := by decide +kernel
theorem dX6_aboutTrack_11 : decode cX6_aboutTrack 11 = .ok (.tableswitch 72 0 4 #[33, 40, 49, 58, 65], 33) := by decide +kernel
theorem dX6_aboutTrack_44 : decode cX6_aboutTrack 44 = .ok (.aload_n 0, 1) := by decide +kernel
theorem dX6_aboutTrack_45 : decode cX6_aboutTrack 45 = .ok (.getfield 23, 3) := by decide +kernel
theorem dX6_aboutTrack_48 : decode cX6_aboutTrack 48 = .ok (.iload_n 1, 1) := by decide +kernel
theorem dX6_aboutTrack_49 : decode cX6_aboutTrack 49 = .ok (.iaload, 1) := by decide +kernel
theorem dX6_aboutTrack_50 : decode cX6_aboutTrack 50 = .ok (.ireturn, 1) := by decide +kernel
theorem dX6_aboutTrack_51 : decode cX6_aboutTrack 51 = .ok (.aload_n 0, 1) := by decide +kernel
theorem dX6_aboutTrack_52 : decode cX6_aboutTrack 52 = .ok (.getfield 35, 3) := by decide +kernel
theorem dX6_aboutTrack_55 : decode cX6_aboutTrack 55 = .ok (.iload_n 1, 1) := by decide +kernel
theorem dX6_aboutTrack_56 : decode cX6_aboutTrack 56 = .ok (.invokevirtual 121, 3) := by decide +kernel
theorem dX6_aboutTrack_59 : decode cX6_aboutTrack 59 = .ok (.ireturn, 1) := by decide +kernel
theorem dX6_aboutTrack_60 : decode cX6_aboutTrack 60 = .ok (.aload_n 0, 1) := by decide +kernel
theorem dX6_aboutTrack_61 : decode cX6_aboutTrack 61 = .ok (.getfield 35, 3) := by decide +kernel
theorem dX6_aboutTrack_64 : decode cX6_aboutTrack 64 = .ok (.iload_n 1, 1) := by decide +kernel
theorem dX6_aboutTrack_65 : decode cX6_aboutTrack 65 = .ok (.invokevirtual 104, 3) := by decide +kernel
theorem dX6_aboutTrack_68 : decode cX6_aboutTrack 68 = .ok (.ireturn, 1) := by decide +kernel
theorem dX6_aboutTrack_69 : decode cX6_aboutTrack 69 = .ok (.aload_n 0, 1) := by decide +kernel
theorem dX6_aboutTrack_70 : decode cX6_aboutTrack 70 = .ok (.getfield 26, 3) := by decide +kernel
theorem dX6_aboutTrack_73 : decode cX6_aboutTrack 73 = .ok (.iload_n 1, 1) := by decide +kernel
theorem dX6_aboutTrack_74 : decode cX6_aboutTrack 74 = .ok (.iaload, 1) := by decide +kernel
theorem dX6_aboutTrack_75 : decode cX6_aboutTrack 75 = .ok (.ireturn, 1) := by decide +kernel
theorem dX6_aboutTrack_76 : decode cX6_aboutTrack 76 = .ok (.aload_n 0, 1) := by decide +kernel
theorem dX6_aboutTrack_77 : decode cX6_aboutTrack 77 = .ok (.getfield 29, 3) := by decide +kernel
theorem dX6_aboutTrack_80 : decode cX6_aboutTrack 80 = .ok (.iload_n 1, 1) := by decide +kernel
theorem dX6_aboutTrack_81 : decode cX6_aboutTrack 81 = .ok (.iaload, 1) := by decide +kernel
theorem dX6_aboutTrack_82 : decode cX6_aboutTrack 82 = .ok (.ireturn, 1) := by decide +kernel
theorem dX6_aboutTrack_83 : decode cX6_aboutTrack 83 = .ok (.bipush (-2), 2) := by decide +kernel
theorem dX6_aboutTrack_85 : decode cX6_aboutTrack 85 = .ok (.ireturn, 1) := by decide +kernel
theorem dX6_aboutWagon_0 : decode cX6_aboutWagon 0 = .ok (.iload_n 1, 1) := by decide +kernel
theorem dX6_aboutWagon_1 : decode cX6_aboutWagon 1 = .ok (.ifCond .lt 14, 3) := by decide +kernel
theorem dX6_aboutWagon_4 : decode cX6_aboutWagon 4 = .ok (.iload_n 1, 1) := by decide +kernel
theorem dX6_aboutWagon_5 : decode cX6_aboutWagon 5 = .ok (.aload_n 0, 1) := by decide +kernel
theorem dX6_aboutWagon_6 : decode cX6_aboutWagon 6 = .ok (.getfield 35, 3) := by decide +kernel
theorem dX6_aboutWagon_9 : decode cX6_aboutWagon 9 = .ok (.getfield 101, 3) := by decide +kernel
theorem dX6_aboutWagon_12 : decode cX6_aboutWagon 12 = .ok (.if_icmp .lt 5, 3) := by decide +kernel
theorem dX6_aboutWagon_15 : decode cX6_aboutWagon 15 = .ok (.iconst (-1), 1) := by decide +kernel
theorem dX6_aboutWagon_16 : decode cX6_aboutWagon 16 = .ok (.ireturn, 1) := by decide +kernel
theorem dX6_aboutWagon_17 : decode cX6_aboutWagon 17 = .ok (.aload_n 0, 1) := by decide +kernel
theorem dX6_aboutWagon_18 : decode cX6_aboutWagon 18 = .ok (.getfield 35, 3) := by decide +kernel
theorem dX6_aboutWagon_21 : decode cX6_aboutWagon 21 = .ok (.iload_n 1, 1) := by decide +kernel
theorem dX6_aboutWagon_22 : decode cX6_aboutWagon 22 = .ok (.invokevirtual 171, 3) := by decide +kernel
theorem dX6_aboutWagon_25 : decode cX6_aboutWagon 25 = .ok (.istore_n 3, 1) := by decide +kernel
theorem dX6_aboutWagon_26 : decode cX6_aboutWagon 26 = .ok (.iload_n 3, 1) := by decide +kernel
theorem dX6_aboutWagon_27 : decode cX6_aboutWagon 27 = .ok (.bipush (-6), 2) := by decide +kernel
theorem dX6_aboutWagon_29 : decode cX6_aboutWagon 29 = .ok (.if_icmp .ne 8, 3) := by decide +kernel
theorem dX6_aboutWagon_32 : decode cX6_aboutWagon 32 = .ok (.bipush (-6), 2) := by decide +kernel
theorem dX6_aboutWagon_34 : decode cX6_aboutWagon 34 = .ok (.goto 12, 3) := by decide +kernel
theorem dX6_aboutWagon_37 : decode cX6_aboutWagon 37 = .ok (.aload_n 0, 1) := by decide +kernel
theorem dX6_aboutWagon_38 : decode cX6_aboutWagon 38 = .ok (.getfield 35, 3) := by decide +kernel
theorem dX6_aboutWagon_41 : decode cX6_aboutWagon 41 = .ok (.iload_n 3, 1) := by decide +kernel
theorem dX6_aboutWagon_42 : decode cX6_aboutWagon 42 = .ok (.iload_n 1, 1) := by decide +kernel
theorem dX6_aboutWagon_43 : decode cX6_aboutWagon 43 = .ok (.invokevirtual 209, 3) := by decide +kernel
theorem dX6_aboutWagon_46 : decode cX6_aboutWagon 46 = .ok (.istore 4, 2) := by decide +kernel
theorem dX6_aboutWagon_48 : decode cX6_aboutWagon 48 = .ok (.iload_n 2, 1) := by decide +kernel
theorem dX6_aboutWagon_49 : decode cX6_aboutWagon 49 = .ok (.tableswitch 139 0 7 #[47, 57, 70, 73, 85, 106, 116, 125], 47) := by decide +kernel
theorem dX6_aboutWagon_96 : decode cX6_aboutWagon 96 = .ok (.aload_n 0, 1) := by decide +kernel
theorem dX6_aboutWagon_97 : decode cX6_aboutWagon 97 = .ok (.getfield 35, 3) := by decide +kernel
theorem dX6_aboutWagon_100 : decode cX6_aboutWagon 100 = .ok (.getfield 212, 3) := by decide +kernel
theorem dX6_aboutWagon_103 : decode cX6_aboutWagon 103 = .ok (.iload_n 1, 1) := by decide +kernel
theorem dX6_aboutWagon_104 : decode cX6_aboutWagon 104 = .ok (.iaload, 1) := by decide +kernel
theorem dX6_aboutWagon_105 : decode cX6_aboutWagon 105 = .ok (.ireturn, 1) := by decide +kernel
theorem dX6_aboutWagon_106 : decode cX6_aboutWagon 106 = .ok (.iload_n 3, 1) := by decide +kernel
theorem dX6_aboutWagon_107 : decode cX6_aboutWagon 107 = .ok (.bipush 8, 2) := by decide +kernel
theorem dX6_aboutWagon_109 : decode cX6_aboutWagon 109 = .ok (.if_icmp .ne 8, 3) := by decide +kernel
theorem dX6_aboutWagon_112 : decode cX6_aboutWagon 112 = .ok (.bipush (-6), 2) := by decide +kernel
theorem dX6_aboutWagon_114 : decode cX6_aboutWagon 114 = .ok (.goto 4, 3) := by decide +kernel
theorem dX6_aboutWagon_117 : decode cX6_aboutWagon 117 = .ok (.iload_n 3, 1) := by decide +kernel
theorem dX6_aboutWagon_118 : decode cX6_aboutWagon 118 = .ok (.ireturn, 1) := by decide +kernel
theorem dX6_aboutWagon_119 : decode cX6_aboutWagon 119 = .ok (.iload 4, 2) := by decide +kernel
theorem dX6_aboutWagon_121 : decode cX6_aboutWagon 121 = .ok (.ireturn, 1) := by decide +kernel
theorem dX6_aboutWagon_122 : decode cX6_aboutWagon 122 = .ok (.iload_n 3, 1) := by decide +kernel
theorem dX6_aboutWagon_123 : decode cX6_aboutWagon 123 = .ok (.bipush 8, 2) := by decide +kernel
theorem dX6_aboutWagon_125 : decode cX6_aboutWagon 125 = .ok (.if_icmp .ne 7, 3) := by decide +kernel
theorem dX6_aboutWagon_128 : decode cX6_aboutWagon 128 = .ok (.iconst 1, 1) := by decide +kernel
theorem dX6_aboutWagon_129 : decode cX6_aboutWagon 129 = .ok (.goto 4, 3) := by decide +kernel
theorem dX6_aboutWagon_132 : decode cX6_aboutWagon 132 = .ok (.iconst 0, 1) := by decide +kernel
theorem dX6_aboutWagon_133 : decode cX6_aboutWagon 133 = .ok (.ireturn, 1) := by decide +kernel
theorem dX6_aboutWagon_134 : decode cX6_aboutWagon 134 = .ok (.iload_n 3, 1) := by decide +kernel
theorem dX6_aboutWagon_135 : decode cX6_aboutWagon 135 = .ok (.bipush (-6), 2) := by decide +kernel
theorem dX6_aboutWagon_137 : decode cX6_aboutWagon 137 = .ok (.if_icmp .ne 15, 3) := by decide +kernel
theorem dX6_aboutWagon_140 : decode cX6_aboutWagon 140 = .ok (.aload_n 0, 1) := by decide +kernel
theorem dX6_aboutWagon_141 : decode cX6_aboutWagon 141 = .ok (.getfield 35, 3) := by decide +kernel
theorem dX6_aboutWagon_144 : decode cX6_aboutWagon 144 = .ok (.getfield 215, 3) := by decide +kernel
theorem dX6_aboutWagon_147 : decode cX6_aboutWagon 147 = .ok (.iload_n 1, 1) := by decide +kernel
theorem dX6_aboutWagon_148 : decode cX6_aboutWagon 148 = .ok (.iaload, 1) := by decide +kernel
theorem dX6_aboutWagon_149 : decode cX6_aboutWagon 149 = .ok (.goto 5, 3) := by decide +kernel
theorem dX6_aboutWagon_152 : decode cX6_aboutWagon 152 = .ok (.bipush (-6), 2) := by decide +kernel
theorem dX6_aboutWagon_154 : decode cX6_aboutWagon 154 = .ok (.ireturn, 1) := by decide +kernel
theorem dX6_aboutWagon_155 : decode cX6_aboutWagon 155 = .ok (.aload_n 0, 1) := by decide +kernel
theorem dX6_aboutWagon_156 : decode cX6_aboutWagon 156 = .ok (.getfield 35, 3) := by decide +kernel
theorem dX6_aboutWagon_159 : decode cX6_aboutWagon 159 = .ok (.getfield 218, 3) := by decide +kernel
theorem dX6_aboutWagon_162 : decode cX6_aboutWagon 162 = .ok (.iload_n 1, 1) := by decide +kernel
theorem dX6_aboutWagon_163 : decode cX6_aboutWagon 163 = .ok (.iaload, 1) := by decide +kernel
theorem dX6_aboutWagon_164 : decode cX6_aboutWagon 164 = .ok (.ireturn, 1) := by decide +kernel
theorem dX6_aboutWagon_165 : decode cX6_aboutWagon 165 = .ok (.aload_n 0, 1) := by decide +kernel
theorem dX6_aboutWagon_166 : decode cX6_aboutWagon 166 = .ok (.getfield 49, 3) := by decide +kernel
theorem dX6_aboutWagon_169 : decode cX6_aboutWagon 169 = .ok (.iload_n 1, 1) := by decide +kernel
theorem dX6_aboutWagon_170 : decode cX6_aboutWagon 170 = .ok (.invokevirtual 165, 3) := by decide +kernel
theorem dX6_aboutWagon_173 : decode cX6_aboutWagon 173 = .ok (.ireturn, 1) := by decide +kernel
theorem dX6_aboutWagon_174 : decode cX6_aboutWagon 174 = .ok (.iload_n 3, 1) := by decide +kernel
theorem dX6_aboutWagon_175 : decode cX6_aboutWagon 175 = .ok (.bipush 8, 2) := by decide +kernel
theorem dX6_aboutWagon_177 : decode cX6_aboutWagon 177 = .ok (.if_icmp .ne 8, 3) := by decide +kernel
theorem dX6_aboutWagon_180 : decode cX6_aboutWagon 180 = .ok (.bipush (-6), 2) := by decide +kernel
theorem dX6_aboutWagon_182 : decode cX6_aboutWagon 182 = .ok (.goto 5, 3) := by decide +kernel
theorem dX6_aboutWagon_185 : decode cX6_aboutWagon 185 = .ok (.iload 4, 2) := by decide +kernel
theorem dX6_aboutWagon_187 : decode cX6_aboutWagon 187 = .ok (.ireturn, 1) := by decide +kernel
theorem dX6_aboutWagon_188 : decode cX6_aboutWagon 188 = .ok (.bipush (-2), 2) := by decide +kernel
theorem dX6_aboutWagon_190 : decode cX6_aboutWagon 190 = .ok (.ireturn, 1) := by decide +kernel
theorem dX6_aboutTrain_0 : decode cX6_aboutTrain 0 = .ok (.aload_n 0, 1) := by decide +kernel
theorem dX6_aboutTrain_1 : decode cX6_aboutTrain 1 = .ok (.getfield 49, 3) := by decide +kernel
theorem dX6_aboutTrain_4 : decode cX6_aboutTrain 4 = .ok (.iload_n 1, 1) := by decide +kernel
theorem dX6_aboutTrain_5 : decode cX6_aboutTrain 5 = .ok (.invokevirtual 174, 3) := by decide +kernel
theorem dX6_aboutTrain_8 : decode cX6_aboutTrain 8 = .ok (.ifCond .ne 5, 3) := by decide +kernel
theorem dX6_aboutTrain_11 : decode cX6_aboutTrain 11 = .ok (.iconst (-1), 1) := by decide +kernel
theorem dX6_aboutTrain_12 : decode cX6_aboutTrain 12 = .ok (.ireturn, 1) := by decide +kernel
theorem dX6_aboutTrain_13 : decode cX6_aboutTrain 13 = .ok (.iload_n 2, 1) := by decide +kernel
theorem dX6_aboutTrain_14 : decode cX6_aboutTrain 14 = .ok (.ifCond .lt 9, 3) := by decide +kernel
theorem dX6_aboutTrain_17 : decode cX6_aboutTrain 17 = .ok (.iload_n 2, 1) := by decide +kernel
theorem dX6_aboutTrain_18 : decode cX6_aboutTrain 18 = .ok (.bipush 10, 2) := by decide +kernel
theorem dX6_aboutTrain_20 : decode cX6_aboutTrain 20 = .ok (.if_icmp .le 6, 3) := by decide +kernel
theorem dX6_aboutTrain_23 : decode cX6_aboutTrain 23 = .ok (.bipush (-2), 2) := by decide +kernel
theorem dX6_aboutTrain_25 : decode cX6_aboutTrain 25 = .ok (.ireturn, 1) := by decide +kernel
theorem dX6_aboutTrain_26 : decode cX6_aboutTrain 26 = .ok (.iload_n 2, 1) := by decide +kernel
theorem dX6_aboutTrain_27 : decode cX6_aboutTrain 27 = .ok (.ifCond .ne 12, 3) := by decide +kernel
theorem dX6_aboutTrain_30 : decode cX6_aboutTrain 30 = .ok (.aload_n 0, 1) := by decide +kernel
theorem dX6_aboutTrain_31 : decode cX6_aboutTrain 31 = .ok (.getfield 49, 3) := by decide +kernel
theorem dX6_aboutTrain_34 : decode cX6_aboutTrain 34 = .ok (.iload_n 1, 1) := by decide +kernel
theorem dX6_aboutTrain_35 : decode cX6_aboutTrain 35 = .ok (.invokevirtual 194, 3) := by decide +kernel
theorem dX6_aboutTrain_38 : decode cX6_aboutTrain 38 = .ok (.ireturn, 1) := by decide +kernel
theorem dX6_aboutTrain_39 : decode cX6_aboutTrain 39 = .ok (.iload_n 2, 1) := by decide +kernel
theorem dX6_aboutTrain_40 : decode cX6_aboutTrain 40 = .ok (.iconst 1, 1) := by decide +kernel
theorem dX6_aboutTrain_41 : decode cX6_aboutTrain 41 = .ok (.if_icmp .ne 13, 3) := by decide +kernel
theorem dX6_aboutTrain_44 : decode cX6_aboutTrain 44 = .ok (.aload_n 0, 1) := by decide +kernel
theorem dX6_aboutTrain_45 : decode cX6_aboutTrain 45 = .ok (.getfield 49, 3) := by decide +kernel
theorem dX6_aboutTrain_48 : decode cX6_aboutTrain 48 = .ok (.getfield 183, 3) := by decide +kernel
theorem dX6_aboutTrain_51 : decode cX6_aboutTrain 51 = .ok (.iload_n 1, 1) := by decide +kernel
theorem dX6_aboutTrain_52 : decode cX6_aboutTrain 52 = .ok (.iaload, 1) := by decide +kernel
theorem dX6_aboutTrain_53 : decode cX6_aboutTrain 53 = .ok (.ireturn, 1) := by decide +kernel
theorem dX6_aboutTrain_54 : decode cX6_aboutTrain 54 = .ok (.iload_n 2, 1) := by decide +kernel
theorem dX6_aboutTrain_55 : decode cX6_aboutTrain 55 = .ok (.bipush 10, 2) := by decide +kernel
theorem dX6_aboutTrain_57 : decode cX6_aboutTrain 57 = .ok (.if_icmp .ne 11, 3) := by decide +kernel
theorem dX6_aboutTrain_60 : decode cX6_aboutTrain 60 = .ok (.aload_n 0, 1) := by decide +kernel
theorem dX6_aboutTrain_61 : decode cX6_aboutTrain 61 = .ok (.iload_n 1, 1) := by decide +kernel
theorem dX6_aboutTrain_62 : decode cX6_aboutTrain 62 = .ok (.invokevirtual 221, 3) := by decide +kernel
theorem dX6_aboutTrain_65 : decode cX6_aboutTrain 65 = .ok (.goto 14, 3) := by decide +kernel
theorem dX6_aboutTrain_68 : decode cX6_aboutTrain 68 = .ok (.aload_n 0, 1) := by decide +kernel
theorem dX6_aboutTrain_69 : decode cX6_aboutTrain 69 = .ok (.getfield 49, 3) := by decide +kernel
theorem dX6_aboutTrain_72 : decode cX6_aboutTrain 72 = .ok (.iload_n 1, 1) := by decide +kernel
theorem dX6_aboutTrain_73 : decode cX6_aboutTrain 73 = .ok (.iload_n 2, 1) := by decide +kernel
theorem dX6_aboutTrain_74 : decode cX6_aboutTrain 74 = .ok (.iconst 2, 1) := by decide +kernel
theorem dX6_aboutTrain_75 : decode cX6_aboutTrain 75 = .ok (.isub, 1) := by decide +kernel
theorem dX6_aboutTrain_76 : decode cX6_aboutTrain 76 = .ok (.invokevirtual 206, 3) := by decide +kernel
theorem dX6_aboutTrain_79 : decode cX6_aboutTrain 79 = .ok (.ireturn, 1) := by decide +kernel
theorem dX6_lengthOfList_0 : decode cX6_lengthOfList 0 = .ok (.aload_n 0, 1) := by decide +kernel
theorem dX6_lengthOfList_1 : decode cX6_lengthOfList 1 = .ok (.getfield 49, 3) := by decide +kernel
theorem dX6_lengthOfList_4 : decode cX6_lengthOfList 4 = .ok (.iload_n 1, 1) := by decide +kernel
theorem dX6_lengthOfList_5 : decode cX6_lengthOfList 5 = .ok (.invokevirtual 194, 3) := by decide +kernel
theorem dX6_lengthOfList_8 : decode cX6_lengthOfList 8 = .ok (.istore_n 2, 1) := by decide +kernel
theorem dX6_lengthOfList_9 : decode cX6_lengthOfList 9 = .ok (.iconst 0, 1) := by decide +kernel
theorem dX6_lengthOfList_10 : decode cX6_lengthOfList 10 = .ok (.istore_n 3, 1) := by decide +kernel
theorem dX6_lengthOfList_11 : decode cX6_lengthOfList 11 = .ok (.iconst 0, 1) := by decide +kernel
theorem dX6_lengthOfList_12 : decode cX6_lengthOfList 12 = .ok (.istore 4, 2) := by decide +kernel
theorem dX6_lengthOfList_14 : decode cX6_lengthOfList 14 = .ok (.iload 4, 2) := by decide +kernel
theorem dX6_lengthOfList_16 : decode cX6_lengthOfList 16 = .ok (.iload_n 2, 1) := by decide +kernel
theorem dX6_lengthOfList_17 : decode cX6_lengthOfList 17 = .ok (.if_icmp .ge 29, 3) := by decide +kernel
theorem dX6_lengthOfList_20 : decode cX6_lengthOfList 20 = .ok (.iload_n 3, 1) := by decide +kernel
theorem dX6_lengthOfList_21 : decode cX6_lengthOfList 21 = .ok (.aload_n 0, 1) := by decide +kernel
theorem dX6_lengthOfList_22 : decode cX6_lengthOfList 22 = .ok (.getfield 35, 3) := by decide +kernel
theorem dX6_lengthOfList_25 : decode cX6_lengthOfList 25 = .ok (.aload_n 0, 1) := by decide +kernel
theorem dX6_lengthOfList_26 : decode cX6_lengthOfList 26 = .ok (.getfield 49, 3) := by decide +kernel
theorem dX6_lengthOfList_29 : decode cX6_lengthOfList 29 = .ok (.iload_n 1, 1) := by decide +kernel
theorem dX6_lengthOfList_30 : decode cX6_lengthOfList 30 = .ok (.iload 4, 2) := by decide +kernel
theorem dX6_lengthOfList_32 : decode cX6_lengthOfList 32 = .ok (.invokevirtual 206, 3) := by decide +kernel
theorem dX6_lengthOfList_35 : decode cX6_lengthOfList 35 = .ok (.invokevirtual 224, 3) := by decide +kernel
theorem dX6_lengthOfList_38 : decode cX6_lengthOfList 38 = .ok (.iadd, 1) := by decide +kernel
theorem dX6_lengthOfList_39 : decode cX6_lengthOfList 39 = .ok (.istore_n 3, 1) := by decide +kernel
theorem dX6_lengthOfList_40 : decode cX6_lengthOfList 40 = .ok (.iinc 4 1, 3) := by decide +kernel
theorem dX6_lengthOfList_43 : decode cX6_lengthOfList 43 = .ok (.goto (-29), 3) := by decide +kernel
theorem dX6_lengthOfList_46 : decode cX6_lengthOfList 46 = .ok (.iload_n 3, 1) := by decide +kernel
theorem dX6_lengthOfList_47 : decode cX6_lengthOfList 47 = .ok (.ireturn, 1) := by decide +kernel
theorem dX6_aboutYard_0 : decode cX6_aboutYard 0 = .ok (.iload_n 1, 1) := by decide +kernel
theorem dX6_aboutYard_1 : decode cX6_aboutYard 1 = .ok (.tableswitch 154 0 12 #[67, 72, 77, 85, 95, 105, 113, 121, 126, 134, 139, 144, 149], 67) := by decide +kernel
theorem dX6_aboutYard_68 : decode cX6_aboutYard 68 = .ok (.aload_n 0, 1) := by decide +kernel
theorem dX6_aboutYard_69 : decode cX6_aboutYard 69 = .ok (.getfield 53, 3) := by decide +kernel
theorem dX6_aboutYard_72 : decode cX6_aboutYard 72 = .ok (.ireturn, 1) := by decide +kernel
theorem dX6_aboutYard_73 : decode cX6_aboutYard 73 = .ok (.aload_n 0, 1) := by decide +kernel
theorem dX6_aboutYard_74 : decode cX6_aboutYard 74 = .ok (.getfield 78, 3) := by decide +kernel
theorem dX6_aboutYard_77 : decode cX6_aboutYard 77 = .ok (.ireturn, 1) := by decide +kernel
theorem dX6_aboutYard_78 : decode cX6_aboutYard 78 = .ok (.aload_n 0, 1) := by decide +kernel
theorem dX6_aboutYard_79 : decode cX6_aboutYard 79 = .ok (.getfield 35, 3) := by decide +kernel
theorem dX6_aboutYard_82 : decode cX6_aboutYard 82 = .ok (.getfield 101, 3) := by decide +kernel
theorem dX6_aboutYard_85 : decode cX6_aboutYard 85 = .ok (.ireturn, 1) := by decide +kernel
theorem dX6_aboutYard_86 : decode cX6_aboutYard 86 = .ok (.aload_n 0, 1) := by decide +kernel
theorem dX6_aboutYard_87 : decode cX6_aboutYard 87 = .ok (.getfield 35, 3) := by decide +kernel
theorem dX6_aboutYard_90 : decode cX6_aboutYard 90 = .ok (.bipush 8, 2) := by decide +kernel
theorem dX6_aboutYard_92 : decode cX6_aboutYard 92 = .ok (.invokevirtual 121, 3) := by decide +kernel
theorem dX6_aboutYard_95 : decode cX6_aboutYard 95 = .ok (.ireturn, 1) := by decide +kernel
theorem dX6_aboutYard_96 : decode cX6_aboutYard 96 = .ok (.aload_n 0, 1) := by decide +kernel
theorem dX6_aboutYard_97 : decode cX6_aboutYard 97 = .ok (.getfield 35, 3) := by decide +kernel
theorem dX6_aboutYard_100 : decode cX6_aboutYard 100 = .ok (.bipush 8, 2) := by decide +kernel
theorem dX6_aboutYard_102 : decode cX6_aboutYard 102 = .ok (.invokevirtual 104, 3) := by decide +kernel
theorem dX6_aboutYard_105 : decode cX6_aboutYard 105 = .ok (.ireturn, 1) := by decide +kernel
theorem dX6_aboutYard_106 : decode cX6_aboutYard 106 = .ok (.aload_n 0, 1) := by decide +kernel
theorem dX6_aboutYard_107 : decode cX6_aboutYard 107 = .ok (.getfield 35, 3) := by decide +kernel
theorem dX6_aboutYard_110 : decode cX6_aboutYard 110 = .ok (.getfield 227, 3) := by decide +kernel
theorem dX6_aboutYard_113 : decode cX6_aboutYard 113 = .ok (.ireturn, 1) := by decide +kernel
theorem dX6_aboutYard_114 : decode cX6_aboutYard 114 = .ok (.aload_n 0, 1) := by decide +kernel
theorem dX6_aboutYard_115 : decode cX6_aboutYard 115 = .ok (.getfield 49, 3) := by decide +kernel
theorem dX6_aboutYard_118 : decode cX6_aboutYard 118 = .ok (.getfield 162, 3) := by decide +kernel
theorem dX6_aboutYard_121 : decode cX6_aboutYard 121 = .ok (.ireturn, 1) := by decide +kernel
theorem dX6_aboutYard_122 : decode cX6_aboutYard 122 = .ok (.aload_n 0, 1) := by decide +kernel
theorem dX6_aboutYard_123 : decode cX6_aboutYard 123 = .ok (.getfield 69, 3) := by decide +kernel
theorem dX6_aboutYard_126 : decode cX6_aboutYard 126 = .ok (.ireturn, 1) := by decide +kernel
theorem dX6_aboutYard_127 : decode cX6_aboutYard 127 = .ok (.aload_n 0, 1) := by decide +kernel
theorem dX6_aboutYard_128 : decode cX6_aboutYard 128 = .ok (.getfield 42, 3) := by decide +kernel
theorem dX6_aboutYard_131 : decode cX6_aboutYard 131 = .ok (.getfield 112, 3) := by decide +kernel
theorem dX6_aboutYard_134 : decode cX6_aboutYard 134 = .ok (.ireturn, 1) := by decide +kernel
theorem dX6_aboutYard_135 : decode cX6_aboutYard 135 = .ok (.aload_n 0, 1) := by decide +kernel
theorem dX6_aboutYard_136 : decode cX6_aboutYard 136 = .ok (.getfield 57, 3) := by decide +kernel
theorem dX6_aboutYard_139 : decode cX6_aboutYard 139 = .ok (.ireturn, 1) := by decide +kernel
theorem dX6_aboutYard_140 : decode cX6_aboutYard 140 = .ok (.aload_n 0, 1) := by decide +kernel
theorem dX6_aboutYard_141 : decode cX6_aboutYard 141 = .ok (.getfield 60, 3) := by decide +kernel
theorem dX6_aboutYard_144 : decode cX6_aboutYard 144 = .ok (.ireturn, 1) := by decide +kernel
theorem dX6_aboutYard_145 : decode cX6_aboutYard 145 = .ok (.aload_n 0, 1) := by decide +kernel
theorem dX6_aboutYard_146 : decode cX6_aboutYard 146 = .ok (.getfield 63, 3) := by decide +kernel
theorem dX6_aboutYard_149 : decode cX6_aboutYard 149 = .ok (.ireturn, 1) := by decide +kernel
theorem dX6_aboutYard_150 : decode cX6_aboutYard 150 = .ok (.aload_n 0, 1) := by decide +kernel
theorem dX6_aboutYard_151 : decode cX6_aboutYard 151 = .ok (.getfield 66, 3) := by decide +kernel
theorem dX6_aboutYard_154 : decode cX6_aboutYard 154 = .ok (.ireturn, 1) := by decide +kernel
theorem dX6_aboutYard_155 : decode cX6_aboutYard 155 = .ok (.iload_n 1, 1) := by decide +kernel
theorem dX6_aboutYard_156 : decode cX6_aboutYard 156 = .ok (.bipush 15, 2) := by decide +kernel
theorem dX6_aboutYard_158 : decode cX6_aboutYard 158 = .ok (.if_icmp .lt 21, 3) := by decide +kernel
theorem dX6_aboutYard_161 : decode cX6_aboutYard 161 = .ok (.iload_n 1, 1) := by decide +kernel
theorem dX6_aboutYard_162 : decode cX6_aboutYard 162 = .ok (.bipush 21, 2) := by decide +kernel
theorem dX6_aboutYard_164 : decode cX6_aboutYard 164 = .ok (.if_icmp .ge 15, 3) := by decide +kernel
theorem dX6_aboutYard_167 : decode cX6_aboutYard 167 = .ok (.aload_n 0, 1) := by decide +kernel
theorem dX6_aboutYard_168 : decode cX6_aboutYard 168 = .ok (.getfield 18, 3) := by decide +kernel
theorem dX6_aboutYard_171 : decode cX6_aboutYard 171 = .ok (.iload_n 1, 1) := by decide +kernel
theorem dX6_aboutYard_172 : decode cX6_aboutYard 172 = .ok (.bipush 15, 2) := by decide +kernel
theorem dX6_aboutYard_174 : decode cX6_aboutYard 174 = .ok (.isub, 1) := by decide +kernel
theorem dX6_aboutYard_175 : decode cX6_aboutYard 175 = .ok (.iaload, 1) := by decide +kernel
theorem dX6_aboutYard_176 : decode cX6_aboutYard 176 = .ok (.goto 5, 3) := by decide +kernel
theorem dX6_aboutYard_179 : decode cX6_aboutYard 179 = .ok (.bipush (-2), 2) := by decide +kernel
theorem dX6_aboutYard_181 : decode cX6_aboutYard 181 = .ok (.ireturn, 1) := by decide +kernel
theorem dX6_tracksFor_0 : decode cX6_tracksFor 0 = .ok (.iconst 0, 1) := by decide +kernel
theorem dX6_tracksFor_1 : decode cX6_tracksFor 1 = .ok (.istore_n 2, 1) := by decide +kernel
theorem dX6_tracksFor_2 : decode cX6_tracksFor 2 = .ok (.iconst 0, 1) := by decide +kernel
theorem dX6_tracksFor_3 : decode cX6_tracksFor 3 = .ok (.istore_n 3, 1) := by decide +kernel
theorem dX6_tracksFor_4 : decode cX6_tracksFor 4 = .ok (.iload_n 3, 1) := by decide +kernel
theorem dX6_tracksFor_5 : decode cX6_tracksFor 5 = .ok (.aload_n 0, 1) := by decide +kernel
theorem dX6_tracksFor_6 : decode cX6_tracksFor 6 = .ok (.getfield 78, 3) := by decide +kernel
theorem dX6_tracksFor_9 : decode cX6_tracksFor 9 = .ok (.if_icmp .ge 28, 3) := by decide +kernel
theorem dX6_tracksFor_12 : decode cX6_tracksFor 12 = .ok (.iload_n 1, 1) := by decide +kernel
theorem dX6_tracksFor_13 : decode cX6_tracksFor 13 = .ok (.ifCond .le 18, 3) := by decide +kernel
theorem dX6_tracksFor_16 : decode cX6_tracksFor 16 = .ok (.aload_n 0, 1) := by decide +kernel
theorem dX6_tracksFor_17 : decode cX6_tracksFor 17 = .ok (.iload_n 3, 1) := by decide +kernel
theorem dX6_tracksFor_18 : decode cX6_tracksFor 18 = .ok (.iload_n 1, 1) := by decide +kernel
theorem dX6_tracksFor_19 : decode cX6_tracksFor 19 = .ok (.invokevirtual 139, 3) := by decide +kernel
theorem dX6_tracksFor_22 : decode cX6_tracksFor 22 = .ok (.ifCond .eq 9, 3) := by decide +kernel
theorem dX6_tracksFor_25 : decode cX6_tracksFor 25 = .ok (.iload_n 2, 1) := by decide +kernel
theorem dX6_tracksFor_26 : decode cX6_tracksFor 26 = .ok (.iconst 1, 1) := by decide +kernel
theorem dX6_tracksFor_27 : decode cX6_tracksFor 27 = .ok (.iload_n 3, 1) := by decide +kernel
theorem dX6_tracksFor_28 : decode cX6_tracksFor 28 = .ok (.ishl, 1) := by decide +kernel
theorem dX6_tracksFor_29 : decode cX6_tracksFor 29 = .ok (.ior, 1) := by decide +kernel
theorem dX6_tracksFor_30 : decode cX6_tracksFor 30 = .ok (.istore_n 2, 1) := by decide +kernel
theorem dX6_tracksFor_31 : decode cX6_tracksFor 31 = .ok (.iinc 3 1, 3) := by decide +kernel
theorem dX6_tracksFor_34 : decode cX6_tracksFor 34 = .ok (.goto (-30), 3) := by decide +kernel
theorem dX6_tracksFor_37 : decode cX6_tracksFor 37 = .ok (.iload_n 2, 1) := by decide +kernel
theorem dX6_tracksFor_38 : decode cX6_tracksFor 38 = .ok (.ireturn, 1) := by decide +kernel
theorem dX7_init_0 : decode cX7_init 0 = .ok (.aload_n 0, 1) := by decide +kernel
theorem dX7_init_1 : decode cX7_init 1 = .ok (.invokespecial 3, 3) := by decide +kernel
theorem dX7_init_4 : decode cX7_init 4 = .ok (.aload_n 0, 1) := by decide +kernel
theorem dX7_init_5 : decode cX7_init 5 = .ok (.new 9, 3) := by decide +kernel
theorem dX7_init_8 : decode cX7_init 8 = .ok (.dup, 1) := by decide +kernel
theorem dX7_init_9 : decode cX7_init 9 = .ok (.invokespecial 11, 3) := by decide +kernel
theorem dX7_init_12 : decode cX7_init 12 = .ok (.putfield 12, 3) := by decide +kernel
theorem dX7_init_15 : decode cX7_init 15 = .ok (.aload_n 0, 1) := by decide +kernel
theorem dX7_init_16 : decode cX7_init 16 = .ok (.new 16, 3) := by decide +kernel
theorem dX7_init_19 : decode cX7_init 19 = .ok (.dup, 1) := by decide +kernel
theorem dX7_init_20 : decode cX7_init 20 = .ok (.invokespecial 18, 3) := by decide +kernel
theorem dX7_init_23 : decode cX7_init 23 = .ok (.putfield 19, 3) := by decide +kernel
theorem dX7_init_26 : decode cX7_init 26 = .ok (.aload_n 0, 1) := by decide +kernel
theorem dX7_init_27 : decode cX7_init 27 = .ok (.new 23, 3) := by decide +kernel
theorem dX7_init_30 : decode cX7_init 30 = .ok (.dup, 1) := by decide +kernel
theorem dX7_init_31 : decode cX7_init 31 = .ok (.invokespecial 25, 3) := by decide +kernel
theorem dX7_init_34 : decode cX7_init 34 = .ok (.putfield 26, 3) := by decide +kernel
theorem dX7_init_37 : decode cX7_init 37 = .ok (.aload_n 0, 1) := by decide +kernel
theorem dX7_init_38 : decode cX7_init 38 = .ok (.iconst 2, 1) := by decide +kernel
theorem dX7_init_39 : decode cX7_init 39 = .ok (.anewarray 9, 3) := by decide +kernel
theorem dX7_init_42 : decode cX7_init 42 = .ok (.putfield 30, 3) := by decide +kernel
theorem dX7_init_45 : decode cX7_init 45 = .ok (.aload_n 0, 1) := by decide +kernel
theorem dX7_init_46 : decode cX7_init 46 = .ok (.iconst 2, 1) := by decide +kernel
theorem dX7_init_47 : decode cX7_init 47 = .ok (.newarray .boolean, 2) := by decide +kernel
theorem dX7_init_49 : decode cX7_init 49 = .ok (.putfield 34, 3) := by decide +kernel
theorem dX7_init_52 : decode cX7_init 52 = .ok (.aload_n 0, 1) := by decide +kernel
theorem dX7_init_53 : decode cX7_init 53 = .ok (.new 38, 3) := by decide +kernel
theorem dX7_init_56 : decode cX7_init 56 = .ok (.dup, 1) := by decide +kernel
theorem dX7_init_57 : decode cX7_init 57 = .ok (.invokespecial 40, 3) := by decide +kernel
theorem dX7_init_60 : decode cX7_init 60 = .ok (.putfield 41, 3) := by decide +kernel
theorem dX7_init_63 : decode cX7_init 63 = .ok (.aload_n 0, 1) := by decide +kernel
theorem dX7_init_64 : decode cX7_init 64 = .ok (.bipush 8, 2) := by decide +kernel
theorem dX7_init_66 : decode cX7_init 66 = .ok (.newarray .int, 2) := by decide +kernel
theorem dX7_init_68 : decode cX7_init 68 = .ok (.putfield 45, 3) := by decide +kernel
theorem dX7_init_71 : decode cX7_init 71 = .ok (.iconst 0, 1) := by decide +kernel
theorem dX7_init_72 : decode cX7_init 72 = .ok (.istore_n 1, 1) := by decide +kernel
theorem dX7_init_73 : decode cX7_init 73 = .ok (.iload_n 1, 1) := by decide +kernel
theorem dX7_init_74 : decode cX7_init 74 = .ok (.iconst 2, 1) := by decide +kernel
theorem dX7_init_75 : decode cX7_init 75 = .ok (.if_icmp .ge 22, 3) := by decide +kernel
theorem dX7_init_78 : decode cX7_init 78 = .ok (.aload_n 0, 1) := by decide +kernel
theorem dX7_init_79 : decode cX7_init 79 = .ok (.getfield 30, 3) := by decide +kernel
theorem dX7_init_82 : decode cX7_init 82 = .ok (.iload_n 1, 1) := by decide +kernel
theorem dX7_init_83 : decode cX7_init 83 = .ok (.new 9, 3) := by decide +kernel
theorem dX7_init_86 : decode cX7_init 86 = .ok (.dup, 1) := by decide +kernel
theorem dX7_init_87 : decode cX7_init 87 = .ok (.invokespecial 11, 3) := by decide +kernel
theorem dX7_init_90 : decode cX7_init 90 = .ok (.aastore, 1) := by decide +kernel
theorem dX7_init_91 : decode cX7_init 91 = .ok (.iinc 1 1, 3) := by decide +kernel
theorem dX7_init_94 : decode cX7_init 94 = .ok (.goto (-21), 3) := by decide +kernel
theorem dX7_init_97 : decode cX7_init 97 = .ok (.return_, 1) := by decide +kernel
theorem dX7_set_0 : decode cX7_set 0 = .ok (.aload_n 0, 1) := by decide +kernel
theorem dX7_set_1 : decode cX7_set 1 = .ok (.getfield 26, 3) := by decide +kernel
theorem dX7_set_4 : decode cX7_set 4 = .ok (.aload_n 0, 1) := by decide +kernel
theorem dX7_set_5 : decode cX7_set 5 = .ok (.getfield 12, 3) := by decide +kernel
theorem dX7_set_8 : decode cX7_set 8 = .ok (.invokevirtual 49, 3) := by decide +kernel
theorem dX7_set_11 : decode cX7_set 11 = .ok (.aload_n 0, 1) := by decide +kernel
theorem dX7_set_12 : decode cX7_set 12 = .ok (.getfield 26, 3) := by decide +kernel
theorem dX7_set_15 : decode cX7_set 15 = .ok (.aload_n 0, 1) := by decide +kernel
theorem dX7_set_16 : decode cX7_set 16 = .ok (.getfield 12, 3) := by decide +kernel
theorem dX7_set_19 : decode cX7_set 19 = .ok (.iload_n 1, 1) := by decide +kernel
theorem dX7_set_20 : decode cX7_set 20 = .ok (.iload_n 2, 1) := by decide +kernel
theorem dX7_set_21 : decode cX7_set 21 = .ok (.invokevirtual 53, 3) := by decide +kernel
theorem dX7_set_24 : decode cX7_set 24 = .ok (.invokevirtual 57, 3) := by decide +kernel
theorem dX7_set_27 : decode cX7_set 27 = .ok (.ireturn, 1) := by decide +kernel
theorem dX7_track_0 : decode cX7_track 0 = .ok (.aload_n 0, 1) := by decide +kernel
theorem dX7_track_1 : decode cX7_track 1 = .ok (.getfield 26, 3) := by decide +kernel
theorem dX7_track_4 : decode cX7_track 4 = .ok (.aload_n 0, 1) := by decide +kernel
theorem dX7_track_5 : decode cX7_track 5 = .ok (.getfield 12, 3) := by decide +kernel
theorem dX7_track_8 : decode cX7_track 8 = .ok (.invokevirtual 49, 3) := by decide +kernel
theorem dX7_track_11 : decode cX7_track 11 = .ok (.aload_n 0, 1) := by decide +kernel
theorem dX7_track_12 : decode cX7_track 12 = .ok (.getfield 26, 3) := by decide +kernel
theorem dX7_track_15 : decode cX7_track 15 = .ok (.aload_n 0, 1) := by decide +kernel
theorem dX7_track_16 : decode cX7_track 16 = .ok (.getfield 12, 3) := by decide +kernel
theorem dX7_track_19 : decode cX7_track 19 = .ok (.iload_n 1, 1) := by decide +kernel
theorem dX7_track_20 : decode cX7_track 20 = .ok (.invokevirtual 61, 3) := by decide +kernel
theorem dX7_track_23 : decode cX7_track 23 = .ok (.invokevirtual 57, 3) := by decide +kernel
theorem dX7_track_26 : decode cX7_track 26 = .ok (.ireturn, 1) := by decide +kernel
theorem dX7_wagon_0 : decode cX7_wagon 0 = .ok (.aload_n 0, 1) := by decide +kernel
theorem dX7_wagon_1 : decode cX7_wagon 1 = .ok (.getfield 26, 3) := by decide +kernel
theorem dX7_wagon_4 : decode cX7_wagon 4 = .ok (.aload_n 0, 1) := by decide +kernel
theorem dX7_wagon_5 : decode cX7_wagon 5 = .ok (.getfield 12, 3) := by decide +kernel
theorem dX7_wagon_8 : decode cX7_wagon 8 = .ok (.invokevirtual 49, 3) := by decide +kernel
theorem dX7_wagon_11 : decode cX7_wagon 11 = .ok (.aload_n 0, 1) := by decide +kernel
theorem dX7_wagon_12 : decode cX7_wagon 12 = .ok (.getfield 26, 3) := by decide +kernel
theorem dX7_wagon_15 : decode cX7_wagon 15 = .ok (.aload_n 0, 1) := by decide +kernel
theorem dX7_wagon_16 : decode cX7_wagon 16 = .ok (.getfield 12, 3) := by decide +kernel
theorem dX7_wagon_19 : decode cX7_wagon 19 = .ok (.iload_n 1, 1) := by decide +kernel
theorem dX7_wagon_20 : decode cX7_wagon 20 = .ok (.iload_n 2, 1) := by decide +kernel
theorem dX7_wagon_21 : decode cX7_wagon 21 = .ok (.invokevirtual 64, 3) := by decide +kernel
theorem dX7_wagon_24 : decode cX7_wagon 24 = .ok (.invokevirtual 57, 3) := by decide +kernel
theorem dX7_wagon_27 : decode cX7_wagon 27 = .ok (.ireturn, 1) := by decide +kernel
theorem dX7_block_0 : decode cX7_block 0 = .ok (.aload_n 0, 1) := by decide +kernel
theorem dX7_block_1 : decode cX7_block 1 = .ok (.getfield 26, 3) := by decide +kernel
theorem dX7_block_4 : decode cX7_block 4 = .ok (.aload_n 0, 1) := by decide +kernel
theorem dX7_block_5 : decode cX7_block 5 = .ok (.getfield 12, 3) := by decide +kernel
theorem dX7_block_8 : decode cX7_block 8 = .ok (.invokevirtual 49, 3) := by decide +kernel
theorem dX7_block_11 : decode cX7_block 11 = .ok (.aload_n 0, 1) := by decide +kernel
theorem dX7_block_12 : decode cX7_block 12 = .ok (.getfield 26, 3) := by decide +kernel
theorem dX7_block_15 : decode cX7_block 15 = .ok (.aload_n 0, 1) := by decide +kernel
theorem dX7_block_16 : decode cX7_block 16 = .ok (.getfield 12, 3) := by decide +kernel
theorem dX7_block_19 : decode cX7_block 19 = .ok (.iload_n 1, 1) := by decide +kernel
theorem dX7_block_20 : decode cX7_block 20 = .ok (.iload_n 2, 1) := by decide +kernel
theorem dX7_block_21 : decode cX7_block 21 = .ok (.invokevirtual 67, 3) := by decide +kernel
theorem dX7_block_24 : decode cX7_block 24 = .ok (.invokevirtual 57, 3) := by decide +kernel
theorem dX7_block_27 : decode cX7_block 27 = .ok (.ireturn, 1) := by decide +kernel
theorem dX7_pull_0 : decode cX7_pull 0 = .ok (.aload_n 0, 1) := by decide +kernel
theorem dX7_pull_1 : decode cX7_pull 1 = .ok (.getfield 26, 3) := by decide +kernel
theorem dX7_pull_4 : decode cX7_pull 4 = .ok (.aload_n 0, 1) := by decide +kernel
theorem dX7_pull_5 : decode cX7_pull 5 = .ok (.getfield 12, 3) := by decide +kernel
theorem dX7_pull_8 : decode cX7_pull 8 = .ok (.invokevirtual 49, 3) := by decide +kernel
theorem dX7_pull_11 : decode cX7_pull 11 = .ok (.aload_n 0, 1) := by decide +kernel
theorem dX7_pull_12 : decode cX7_pull 12 = .ok (.getfield 26, 3) := by decide +kernel
theorem dX7_pull_15 : decode cX7_pull 15 = .ok (.aload_n 0, 1) := by decide +kernel
theorem dX7_pull_16 : decode cX7_pull 16 = .ok (.getfield 12, 3) := by decide +kernel
theorem dX7_pull_19 : decode cX7_pull 19 = .ok (.iload_n 1, 1) := by decide +kernel
theorem dX7_pull_20 : decode cX7_pull 20 = .ok (.iload_n 2, 1) := by decide +kernel
theorem dX7_pull_21 : decode cX7_pull 21 = .ok (.invokevirtual 70, 3) := by decide +kernel
theorem dX7_pull_24 : decode cX7_pull 24 = .ok (.invokevirtual 57, 3) := by decide +kernel
theorem dX7_pull_27 : decode cX7_pull 27 = .ok (.ireturn, 1) := by decide +kernel
theorem dX7_push_0 : decode cX7_push 0 = .ok (.aload_n 0, 1) := by decide +kernel
theorem dX7_push_1 : decode cX7_push 1 = .ok (.getfield 26, 3) := by decide +kernel
theorem dX7_push_4 : decode cX7_push 4 = .ok (.aload_n 0, 1) := by decide +kernel
theorem dX7_push_5 : decode cX7_push 5 = .ok (.getfield 12, 3) := by decide +kernel
theorem dX7_push_8 : decode cX7_push 8 = .ok (.invokevirtual 49, 3) := by decide +kernel
theorem dX7_push_11 : decode cX7_push 11 = .ok (.aload_n 0, 1) := by decide +kernel
theorem dX7_push_12 : decode cX7_push 12 = .ok (.getfield 26, 3) := by decide +kernel
theorem dX7_push_15 : decode cX7_push 15 = .ok (.aload_n 0, 1) := by decide +kernel
theorem dX7_push_16 : decode cX7_push 16 = .ok (.getfield 12, 3) := by decide +kernel
theorem dX7_push_19 : decode cX7_push 19 = .ok (.iload_n 1, 1) := by decide +kernel
theorem dX7_push_20 : decode cX7_push 20 = .ok (.iload_n 2, 1) := by decide +kernel
theorem dX7_push_21 : decode cX7_push 21 = .ok (.invokevirtual 73, 3) := by decide +kernel
theorem dX7_push_24 : decode cX7_push 24 = .ok (.invokevirtual 57, 3) := by decide +kernel
theorem dX7_push_27 : decode cX7_push 27 = .ok (.ireturn, 1) := by decide +kernel
theorem dX7_round_0 : decode cX7_round 0 = .ok (.aload_n 0, 1) := by decide +kernel
theorem dX7_round_1 : decode cX7_round 1 = .ok (.getfield 26, 3) := by decide +kernel
theorem dX7_round_4 : decode cX7_round 4 = .ok (.aload_n 0, 1) := by decide +kernel
theorem dX7_round_5 : decode cX7_round 5 = .ok (.getfield 12, 3) := by decide +kernel
theorem dX7_round_8 : decode cX7_round 8 = .ok (.invokevirtual 49, 3) := by decide +kernel
theorem dX7_round_11 : decode cX7_round 11 = .ok (.aload_n 0, 1) := by decide +kernel
theorem dX7_round_12 : decode cX7_round 12 = .ok (.getfield 26, 3) := by decide +kernel
theorem dX7_round_15 : decode cX7_round 15 = .ok (.aload_n 0, 1) := by decide +kernel
theorem dX7_round_16 : decode cX7_round 16 = .ok (.getfield 12, 3) := by decide +kernel
theorem dX7_round_19 : decode cX7_round 19 = .ok (.invokevirtual 76, 3) := by decide +kernel
theorem dX7_round_22 : decode cX7_round 22 = .ok (.invokevirtual 57, 3) := by decide +kernel
theorem dX7_round_25 : decode cX7_round 25 = .ok (.ireturn, 1) := by decide +kernel
theorem dX7_pass_0 : decode cX7_pass 0 = .ok (.aload_n 0, 1) := by decide +kernel
theorem dX7_pass_1 : decode cX7_pass 1 = .ok (.getfield 26, 3) := by decide +kernel
theorem dX7_pass_4 : decode cX7_pass 4 = .ok (.aload_n 0, 1) := by decide +kernel
theorem dX7_pass_5 : decode cX7_pass 5 = .ok (.getfield 12, 3) := by decide +kernel
theorem dX7_pass_8 : decode cX7_pass 8 = .ok (.invokevirtual 49, 3) := by decide +kernel
theorem dX7_pass_11 : decode cX7_pass 11 = .ok (.aload_n 0, 1) := by decide +kernel
theorem dX7_pass_12 : decode cX7_pass 12 = .ok (.getfield 26, 3) := by decide +kernel
theorem dX7_pass_15 : decode cX7_pass 15 = .ok (.aload_n 0, 1) := by decide +kernel
theorem dX7_pass_16 : decode cX7_pass 16 = .ok (.getfield 12, 3) := by decide +kernel
theorem dX7_pass_19 : decode cX7_pass 19 = .ok (.iload_n 1, 1) := by decide +kernel
theorem dX7_pass_20 : decode cX7_pass 20 = .ok (.invokevirtual 80, 3) := by decide +kernel
theorem dX7_pass_23 : decode cX7_pass 23 = .ok (.invokevirtual 57, 3) := by decide +kernel
theorem dX7_pass_26 : decode cX7_pass 26 = .ok (.ireturn, 1) := by decide +kernel
theorem dX7_train_0 : decode cX7_train 0 = .ok (.aload_n 0, 1) := by decide +kernel
theorem dX7_train_1 : decode cX7_train 1 = .ok (.getfield 26, 3) := by decide +kernel
theorem dX7_train_4 : decode cX7_train 4 = .ok (.aload_n 0, 1) := by decide +kernel
theorem dX7_train_5 : decode cX7_train 5 = .ok (.getfield 12, 3) := by decide +kernel
theorem dX7_train_8 : decode cX7_train 8 = .ok (.invokevirtual 49, 3) := by decide +kernel
theorem dX7_train_11 : decode cX7_train 11 = .ok (.aload_n 0, 1) := by decide +kernel
theorem dX7_train_12 : decode cX7_train 12 = .ok (.lload_n 1, 1) := by decide +kernel
theorem dX7_train_13 : decode cX7_train 13 = .ok (.invokevirtual 83, 3) := by decide +kernel
theorem dX7_train_16 : decode cX7_train 16 = .ok (.istore 4, 2) := by decide +kernel
theorem dX7_train_18 : decode cX7_train 18 = .ok (.aload_n 0, 1) := by decide +kernel
theorem dX7_train_19 : decode cX7_train 19 = .ok (.getfield 26, 3) := by decide +kernel
theorem dX7_train_22 : decode cX7_train 22 = .ok (.aload_n 0, 1) := by decide +kernel
theorem dX7_train_23 : decode cX7_train 23 = .ok (.getfield 12, 3) := by decide +kernel
theorem dX7_train_26 : decode cX7_train 26 = .ok (.aload_n 0, 1) := by decide +kernel
theorem dX7_train_27 : decode cX7_train 27 = .ok (.getfield 45, 3) := by decide +kernel
theorem dX7_train_30 : decode cX7_train 30 = .ok (.iload 4, 2) := by decide +kernel
theorem dX7_train_32 : decode cX7_train 32 = .ok (.iload_n 3, 1) := by decide +kernel
theorem dX7_train_33 : decode cX7_train 33 = .ok (.invokevirtual 87, 3) := by decide +kernel
theorem dX7_train_36 : decode cX7_train 36 = .ok (.invokevirtual 57, 3) := by decide +kernel
theorem dX7_train_39 : decode cX7_train 39 = .ok (.ireturn, 1) := by decide +kernel
theorem dX7_readList_0 : decode cX7_readList 0 = .ok (.lload_n 1, 1) := by decide +kernel
theorem dX7_readList_1 : decode cX7_readList 1 = .ok (.lstore_n 3, 1) := by decide +kernel
theorem dX7_readList_2 : decode cX7_readList 2 = .ok (.iconst 0, 1) := by decide +kernel
theorem dX7_readList_3 : decode cX7_readList 3 = .ok (.istore 5, 2) := by decide +kernel
theorem dX7_readList_5 : decode cX7_readList 5 = .ok (.iconst 0, 1) := by decide +kernel
theorem dX7_readList_6 : decode cX7_readList 6 = .ok (.istore 6, 2) := by decide +kernel
theorem dX7_readList_8 : decode cX7_readList 8 = .ok (.iload 6, 2) := by decide +kernel
theorem dX7_readList_10 : decode cX7_readList 10 = .ok (.bipush 8, 2) := by decide +kernel
theorem dX7_readList_12 : decode cX7_readList 12 = .ok (.if_icmp .ge 50, 3) := by decide +kernel
theorem dX7_readList_15 : decode cX7_readList 15 = .ok (.lload_n 3, 1) := by decide +kernel
theorem dX7_readList_16 : decode cX7_readList 16 = .ok (.lconst 0, 1) := by decide +kernel
theorem dX7_readList_17 : decode cX7_readList 17 = .ok (.lcmp, 1) := by decide +kernel
theorem dX7_readList_18 : decode cX7_readList 18 = .ok (.ifCond .le 44, 3) := by decide +kernel
theorem dX7_readList_21 : decode cX7_readList 21 = .ok (.lload_n 3, 1) := by decide +kernel
theorem dX7_readList_22 : decode cX7_readList 22 = .ok (.ldc2_w 91, 3) := by decide +kernel
theorem dX7_readList_25 : decode cX7_readList 25 = .ok (.lrem, 1) := by decide +kernel
theorem dX7_readList_26 : decode cX7_readList 26 = .ok (.l2i, 1) := by decide +kernel
theorem dX7_readList_27 : decode cX7_readList 27 = .ok (.istore 7, 2) := by decide +kernel
theorem dX7_readList_29 : decode cX7_readList 29 = .ok (.iload 7, 2) := by decide +kernel
theorem dX7_readList_31 : decode cX7_readList 31 = .ok (.ifCond .ne 5, 3) := by decide +kernel
theorem dX7_readList_34 : decode cX7_readList 34 = .ok (.iconst 0, 1) := by decide +kernel
theorem dX7_readList_35 : decode cX7_readList 35 = .ok (.ireturn, 1) := by decide +kernel
theorem dX7_readList_36 : decode cX7_readList 36 = .ok (.aload_n 0, 1) := by decide +kernel
theorem dX7_readList_37 : decode cX7_readList 37 = .ok (.getfield 45, 3) := by decide +kernel
theorem dX7_readList_40 : decode cX7_readList 40 = .ok (.iload 6, 2) := by decide +kernel
theorem dX7_readList_42 : decode cX7_readList 42 = .ok (.iload 7, 2) := by decide +kernel
theorem dX7_readList_44 : decode cX7_readList 44 = .ok (.iconst 1, 1) := by decide +kernel
theorem dX7_readList_45 : decode cX7_readList 45 = .ok (.isub, 1) := by decide +kernel
theorem dX7_readList_46 : decode cX7_readList 46 = .ok (.iastore, 1) := by decide +kernel
theorem dX7_readList_47 : decode cX7_readList 47 = .ok (.iinc 5 1, 3) := by decide +kernel
theorem dX7_readList_50 : decode cX7_readList 50 = .ok (.lload_n 3, 1) := by decide +kernel
theorem dX7_readList_51 : decode cX7_readList 51 = .ok (.ldc2_w 91, 3) := by decide +kernel
theorem dX7_readList_54 : decode cX7_readList 54 = .ok (.ldiv, 1) := by decide +kernel
theorem dX7_readList_55 : decode cX7_readList 55 = .ok (.lstore_n 3, 1) := by decide +kernel
theorem dX7_readList_56 : decode cX7_readList 56 = .ok (.iinc 6 1, 3) := by decide +kernel
theorem dX7_readList_59 : decode cX7_readList 59 = .ok (.goto (-51), 3) := by decide +kernel
theorem dX7_readList_62 : decode cX7_readList 62 = .ok (.lload_n 3, 1) := by decide +kernel
theorem dX7_readList_63 : decode cX7_readList 63 = .ok (.lconst 0, 1) := by decide +kernel
theorem dX7_readList_64 : decode cX7_readList 64 = .ok (.lcmp, 1) := by decide +kernel
theorem dX7_readList_65 : decode cX7_readList 65 = .ok (.ifCond .ne 8, 3) := by decide +kernel
theorem dX7_readList_68 : decode cX7_readList 68 = .ok (.iload 5, 2) := by decide +kernel
theorem dX7_readList_70 : decode cX7_readList 70 = .ok (.goto 4, 3) := by decide +kernel
theorem dX7_readList_73 : decode cX7_readList 73 = .ok (.iconst 0, 1) := by decide +kernel
theorem dX7_readList_74 : decode cX7_readList 74 = .ok (.ireturn, 1) := by decide +kernel
theorem dX7_leave_0 : decode cX7_leave 0 = .ok (.aload_n 0, 1) := by decide +kernel
theorem dX7_leave_1 : decode cX7_leave 1 = .ok (.getfield 26, 3) := by decide +kernel
theorem dX7_leave_4 : decode cX7_leave 4 = .ok (.aload_n 0, 1) := by decide +kernel
theorem dX7_leave_5 : decode cX7_leave 5 = .ok (.getfield 12, 3) := by decide +kernel
theorem dX7_leave_8 : decode cX7_leave 8 = .ok (.invokevirtual 49, 3) := by decide +kernel
theorem dX7_leave_11 : decode cX7_leave 11 = .ok (.aload_n 0, 1) := by decide +kernel
theorem dX7_leave_12 : decode cX7_leave 12 = .ok (.getfield 26, 3) := by decide +kernel
theorem dX7_leave_15 : decode cX7_leave 15 = .ok (.aload_n 0, 1) := by decide +kernel
theorem dX7_leave_16 : decode cX7_leave 16 = .ok (.getfield 12, 3) := by decide +kernel
theorem dX7_leave_19 : decode cX7_leave 19 = .ok (.iload_n 1, 1) := by decide +kernel
theorem dX7_leave_20 : decode cX7_leave 20 = .ok (.invokevirtual 96, 3) := by decide +kernel
theorem dX7_leave_23 : decode cX7_leave 23 = .ok (.invokevirtual 57, 3) := by decide +kernel
theorem dX7_leave_26 : decode cX7_leave 26 = .ok (.ireturn, 1) := by decide +kernel
theorem dX7_ofTrack_0 : decode cX7_ofTrack 0 = .ok (.aload_n 0, 1) := by decide +kernel
theorem dX7_ofTrack_1 : decode cX7_ofTrack 1 = .ok (.getfield 12, 3) := by decide +kernel
theorem dX7_ofTrack_4 : decode cX7_ofTrack 4 = .ok (.iload_n 1, 1) := by decide +kernel
theorem dX7_ofTrack_5 : decode cX7_ofTrack 5 = .ok (.iload_n 2, 1) := by decide +kernel
theorem dX7_ofTrack_6 : decode cX7_ofTrack 6 = .ok (.invokevirtual 99, 3) := by decide +kernel
theorem dX7_ofTrack_9 : decode cX7_ofTrack 9 = .ok (.ireturn, 1) := by decide +kernel
theorem dX7_at_0 : decode cX7_at 0 = .ok (.iload_n 1, 1) := by decide +kernel
theorem dX7_at_1 : decode cX7_at 1 = .ok (.bipush (-6), 2) := by decide +kernel
theorem dX7_at_3 : decode cX7_at 3 = .ok (.if_icmp .ne 17, 3) := by decide +kernel
theorem dX7_at_6 : decode cX7_at 6 = .ok (.aload_n 0, 1) := by decide +kernel
theorem dX7_at_7 : decode cX7_at 7 = .ok (.getfield 12, 3) := by decide +kernel
theorem dX7_at_10 : decode cX7_at 10 = .ok (.getfield 102, 3) := by decide +kernel
theorem dX7_at_13 : decode cX7_at 13 = .ok (.bipush 8, 2) := by decide +kernel
theorem dX7_at_15 : decode cX7_at 15 = .ok (.iload_n 2, 1) := by decide +kernel
theorem dX7_at_16 : decode cX7_at 16 = .ok (.invokevirtual 106, 3) := by decide +kernel
theorem dX7_at_19 : decode cX7_at 19 = .ok (.ireturn, 1) := by decide +kernel
theorem dX7_at_20 : decode cX7_at 20 = .ok (.aload_n 0, 1) := by decide +kernel
theorem dX7_at_21 : decode cX7_at 21 = .ok (.getfield 12, 3) := by decide +kernel
theorem dX7_at_24 : decode cX7_at 24 = .ok (.iload_n 1, 1) := by decide +kernel
theorem dX7_at_25 : decode cX7_at 25 = .ok (.invokevirtual 111, 3) := by decide +kernel
theorem dX7_at_28 : decode cX7_at 28 = .ok (.ifCond .eq 18, 3) := by decide +kernel
theorem dX7_at_31 : decode cX7_at 31 = .ok (.aload_n 0, 1) := by decide +kernel
theorem dX7_at_32 : decode cX7_at 32 = .ok (.getfield 12, 3) := by decide +kernel
theorem dX7_at_35 : decode cX7_at 35 = .ok (.getfield 102, 3) := by decide +kernel
theorem dX7_at_38 : decode cX7_at 38 = .ok (.iload_n 1, 1) := by decide +kernel
theorem dX7_at_39 : decode cX7_at 39 = .ok (.iload_n 2, 1) := by decide +kernel
theorem dX7_at_40 : decode cX7_at 40 = .ok (.invokevirtual 106, 3) := by decide +kernel
theorem dX7_at_43 : decode cX7_at 43 = .ok (.goto 4, 3) := by decide +kernel
theorem dX7_at_46 : decode cX7_at 46 = .ok (.iconst (-1), 1) := by decide +kernel
theorem dX7_at_47 : decode cX7_at 47 = .ok (.ireturn, 1) := by decide +kernel
theorem dX7_ofWagon_0 : decode cX7_ofWagon 0 = .ok (.aload_n 0, 1) := by decide +kernel
theorem dX7_ofWagon_1 : decode cX7_ofWagon 1 = .ok (.getfield 12, 3) := by decide +kernel
theorem dX7_ofWagon_4 : decode cX7_ofWagon 4 = .ok (.iload_n 1, 1) := by decide +kernel
theorem dX7_ofWagon_5 : decode cX7_ofWagon 5 = .ok (.iload_n 2, 1) := by decide +kernel
theorem dX7_ofWagon_6 : decode cX7_ofWagon 6 = .ok (.invokevirtual 115, 3) := by decide +kernel
theorem dX7_ofWagon_9 : decode cX7_ofWagon 9 = .ok (.ireturn, 1) := by decide +kernel
theorem dX7_ofTrain_0 : decode cX7_ofTrain 0 = .ok (.aload_n 0, 1) := by decide +kernel
theorem dX7_ofTrain_1 : decode cX7_ofTrain 1 = .ok (.getfield 12, 3) := by decide +kernel
theorem dX7_ofTrain_4 : decode cX7_ofTrain 4 = .ok (.iload_n 1, 1) := by decide +kernel
theorem dX7_ofTrain_5 : decode cX7_ofTrain 5 = .ok (.iload_n 2, 1) := by decide +kernel
theorem dX7_ofTrain_6 : decode cX7_ofTrain 6 = .ok (.invokevirtual 118, 3) := by decide +kernel
theorem dX7_ofTrain_9 : decode cX7_ofTrain 9 = .ok (.ireturn, 1) := by decide +kernel
theorem dX7_count_0 : decode cX7_count 0 = .ok (.iload_n 1, 1) := by decide +kernel
theorem dX7_count_1 : decode cX7_count 1 = .ok (.bipush 13, 2) := by decide +kernel
theorem dX7_count_3 : decode cX7_count 3 = .ok (.if_icmp .ne 11, 3) := by decide +kernel
theorem dX7_count_6 : decode cX7_count 6 = .ok (.aload_n 0, 1) := by decide +kernel
theorem dX7_count_7 : decode cX7_count 7 = .ok (.getfield 41, 3) := by decide +kernel
theorem dX7_count_10 : decode cX7_count 10 = .ok (.getfield 121, 3) := by decide +kernel
theorem dX7_count_13 : decode cX7_count 13 = .ok (.ireturn, 1) := by decide +kernel
theorem dX7_count_14 : decode cX7_count 14 = .ok (.iload_n 1, 1) := by decide +kernel
theorem dX7_count_15 : decode cX7_count 15 = .ok (.bipush 14, 2) := by decide +kernel
theorem dX7_count_17 : decode cX7_count 17 = .ok (.if_icmp .ne 11, 3) := by decide +kernel
theorem dX7_count_20 : decode cX7_count 20 = .ok (.aload_n 0, 1) := by decide +kernel
theorem dX7_count_21 : decode cX7_count 21 = .ok (.getfield 26, 3) := by decide +kernel
theorem dX7_count_24 : decode cX7_count 24 = .ok (.getfield 125, 3) := by decide +kernel
theorem dX7_count_27 : decode cX7_count 27 = .ok (.ireturn, 1) := by decide +kernel
theorem dX7_count_28 : decode cX7_count 28 = .ok (.aload_n 0, 1) := by decide +kernel
theorem dX7_count_29 : decode cX7_count 29 = .ok (.getfield 12, 3) := by decide +kernel
theorem dX7_count_32 : decode cX7_count 32 = .ok (.iload_n 1, 1) := by decide +kernel
theorem dX7_count_33 : decode cX7_count 33 = .ok (.invokevirtual 128, 3) := by decide +kernel
theorem dX7_count_36 : decode cX7_count 36 = .ok (.ireturn, 1) := by decide +kernel
theorem dX7_freeFrom_0 : decode cX7_freeFrom 0 = .ok (.iload_n 1, 1) := by decide +kernel
theorem dX7_freeFrom_1 : decode cX7_freeFrom 1 = .ok (.iconst 1, 1) := by decide +kernel
theorem dX7_freeFrom_2 : decode cX7_freeFrom 2 = .ok (.if_icmp .lt 10, 3) := by decide +kernel
theorem dX7_freeFrom_5 : decode cX7_freeFrom 5 = .ok (.iload_n 1, 1) := by decide +kernel
theorem dX7_freeFrom_6 : decode cX7_freeFrom 6 = .ok (.sipush 500, 3) := by decide +kernel
theorem dX7_freeFrom_9 : decode cX7_freeFrom 9 = .ok (.if_icmp .le 6, 3) := by decide +kernel
theorem dX7_freeFrom_12 : decode cX7_freeFrom 12 = .ok (.bipush (-2), 2) := by decide +kernel
theorem dX7_freeFrom_14 : decode cX7_freeFrom 14 = .ok (.ireturn, 1) := by decide +kernel
theorem dX7_freeFrom_15 : decode cX7_freeFrom 15 = .ok (.aload_n 0, 1) := by decide +kernel
theorem dX7_freeFrom_16 : decode cX7_freeFrom 16 = .ok (.getfield 12, 3) := by decide +kernel
theorem dX7_freeFrom_19 : decode cX7_freeFrom 19 = .ok (.getfield 131, 3) := by decide +kernel
theorem dX7_freeFrom_22 : decode cX7_freeFrom 22 = .ok (.aload_n 0, 1) := by decide +kernel
theorem dX7_freeFrom_23 : decode cX7_freeFrom 23 = .ok (.getfield 12, 3) := by decide +kernel
theorem dX7_freeFrom_26 : decode cX7_freeFrom 26 = .ok (.getfield 135, 3) := by decide +kernel
theorem dX7_freeFrom_29 : decode cX7_freeFrom 29 = .ok (.iload_n 1, 1) := by decide +kernel
theorem dX7_freeFrom_30 : decode cX7_freeFrom 30 = .ok (.invokevirtual 138, 3) := by decide +kernel
theorem dX7_freeFrom_33 : decode cX7_freeFrom 33 = .ok (.ireturn, 1) := by decide +kernel
theorem dX7_straight_0 : decode cX7_straight 0 = .ok (.aload_n 0, 1) := by decide +kernel
theorem dX7_straight_1 : decode cX7_straight 1 = .ok (.getfield 12, 3) := by decide +kernel
theorem dX7_straight_4 : decode cX7_straight 4 = .ok (.getfield 143, 3) := by decide +kernel
theorem dX7_straight_7 : decode cX7_straight 7 = .ok (.iload_n 1, 1) := by decide +kernel
theorem dX7_straight_8 : decode cX7_straight 8 = .ok (.invokevirtual 147, 3) := by decide +kernel
theorem dX7_straight_11 : decode cX7_straight 11 = .ok (.ifCond .ne 5, 3) := by decide +kernel
theorem dX7_straight_14 : decode cX7_straight 14 = .ok (.iconst (-1), 1) := by decide +kernel
theorem dX7_straight_15 : decode cX7_straight 15 = .ok (.ireturn, 1) := by decide +kernel
theorem dX7_straight_16 : decode cX7_straight 16 = .ok (.aload_n 0, 1) := by decide +kernel
theorem dX7_straight_17 : decode cX7_straight 17 = .ok (.getfield 19, 3) := by decide +kernel
theorem dX7_straight_20 : decode cX7_straight 20 = .ok (.aload_n 0, 1) := by decide +kernel
theorem dX7_straight_21 : decode cX7_straight 21 = .ok (.getfield 12, 3) := by decide +kernel
theorem dX7_straight_24 : decode cX7_straight 24 = .ok (.iload_n 1, 1) := by decide +kernel
theorem dX7_straight_25 : decode cX7_straight 25 = .ok (.invokevirtual 152, 3) := by decide +kernel
theorem dX7_straight_28 : decode cX7_straight 28 = .ok (.bipush (-6), 2) := by decide +kernel
theorem dX7_straight_30 : decode cX7_straight 30 = .ok (.if_icmp .ne 7, 3) := by decide +kernel
theorem dX7_straight_33 : decode cX7_straight 33 = .ok (.iconst 0, 1) := by decide +kernel
theorem dX7_straight_34 : decode cX7_straight 34 = .ok (.goto 4, 3) := by decide +kernel
theorem dX7_straight_37 : decode cX7_straight 37 = .ok (.iconst 1, 1) := by decide +kernel
theorem dX7_straight_38 : decode cX7_straight 38 = .ok (.ireturn, 1) := by decide +kernel
theorem dX7_pulls_0 : decode cX7_pulls 0 = .ok (.aload_n 0, 1) := by decide +kernel
theorem dX7_pulls_1 : decode cX7_pulls 1 = .ok (.getfield 12, 3) := by decide +kernel
theorem dX7_pulls_4 : decode cX7_pulls 4 = .ok (.getfield 143, 3) := by decide +kernel
theorem dX7_pulls_7 : decode cX7_pulls 7 = .ok (.iload_n 1, 1) := by decide +kernel
theorem dX7_pulls_8 : decode cX7_pulls 8 = .ok (.invokevirtual 147, 3) := by decide +kernel
theorem dX7_pulls_11 : decode cX7_pulls 11 = .ok (.ifCond .eq 18, 3) := by decide +kernel
theorem dX7_pulls_14 : decode cX7_pulls 14 = .ok (.aload_n 0, 1) := by decide +kernel
theorem dX7_pulls_15 : decode cX7_pulls 15 = .ok (.getfield 19, 3) := by decide +kernel
theorem dX7_pulls_18 : decode cX7_pulls 18 = .ok (.aload_n 0, 1) := by decide +kernel
theorem dX7_pulls_19 : decode cX7_pulls 19 = .ok (.getfield 12, 3) := by decide +kernel
theorem dX7_pulls_22 : decode cX7_pulls 22 = .ok (.iload_n 1, 1) := by decide +kernel
theorem dX7_pulls_23 : decode cX7_pulls 23 = .ok (.invokevirtual 152, 3) := by decide +kernel
theorem dX7_pulls_26 : decode cX7_pulls 26 = .ok (.goto 4, 3) := by decide +kernel
theorem dX7_pulls_29 : decode cX7_pulls 29 = .ok (.iconst (-1), 1) := by decide +kernel
theorem dX7_pulls_30 : decode cX7_pulls 30 = .ok (.ireturn, 1) := by decide +kernel
theorem dX7_wouldLeave_0 : decode cX7_wouldLeave 0 = .ok (.aload_n 0, 1) := by decide +kernel
theorem dX7_wouldLeave_1 : decode cX7_wouldLeave 1 = .ok (.getfield 12, 3) := by decide +kernel
theorem dX7_wouldLeave_4 : decode cX7_wouldLeave 4 = .ok (.getfield 143, 3) := by decide +kernel
theorem dX7_wouldLeave_7 : decode cX7_wouldLeave 7 = .ok (.iload_n 1, 1) := by decide +kernel
theorem dX7_wouldLeave_8 : decode cX7_wouldLeave 8 = .ok (.invokevirtual 147, 3) := by decide +kernel
theorem dX7_wouldLeave_11 : decode cX7_wouldLeave 11 = .ok (.ifCond .ne 5, 3) := by decide +kernel
theorem dX7_wouldLeave_14 : decode cX7_wouldLeave 14 = .ok (.iconst (-1), 1) := by decide +kernel
theorem dX7_wouldLeave_15 : decode cX7_wouldLeave 15 = .ok (.ireturn, 1) := by decide +kernel
theorem dX7_wouldLeave_16 : decode cX7_wouldLeave 16 = .ok (.aload_n 0, 1) := by decide +kernel
theorem dX7_wouldLeave_17 : decode cX7_wouldLeave 17 = .ok (.getfield 19, 3) := by decide +kernel
theorem dX7_wouldLeave_20 : decode cX7_wouldLeave 20 = .ok (.aload_n 0, 1) := by decide +kernel
theorem dX7_wouldLeave_21 : decode cX7_wouldLeave 21 = .ok (.getfield 12, 3) := by decide +kernel
theorem dX7_wouldLeave_24 : decode cX7_wouldLeave 24 = .ok (.iload_n 1, 1) := by decide +kernel
theorem dX7_wouldLeave_25 : decode cX7_wouldLeave 25 = .ok (.invokevirtual 152, 3) := by decide +kernel
theorem dX7_wouldLeave_28 : decode cX7_wouldLeave 28 = .ok (.bipush (-6), 2) := by decide +kernel
theorem dX7_wouldLeave_30 : decode cX7_wouldLeave 30 = .ok (.if_icmp .ne 8, 3) := by decide +kernel
theorem dX7_wouldLeave_33 : decode cX7_wouldLeave 33 = .ok (.bipush (-6), 2) := by decide +kernel
theorem dX7_wouldLeave_35 : decode cX7_wouldLeave 35 = .ok (.goto 13, 3) := by decide +kernel
theorem dX7_wouldLeave_38 : decode cX7_wouldLeave 38 = .ok (.aload_n 0, 1) := by decide +kernel
theorem dX7_wouldLeave_39 : decode cX7_wouldLeave 39 = .ok (.getfield 19, 3) := by decide +kernel
theorem dX7_wouldLeave_42 : decode cX7_wouldLeave 42 = .ok (.getfield 156, 3) := by decide +kernel
theorem dX7_wouldLeave_45 : decode cX7_wouldLeave 45 = .ok (.getfield 135, 3) := by decide +kernel
theorem dX7_wouldLeave_48 : decode cX7_wouldLeave 48 = .ok (.ireturn, 1) := by decide +kernel
theorem dX7_moves_0 : decode cX7_moves 0 = .ok (.aload_n 0, 1) := by decide +kernel
theorem dX7_moves_1 : decode cX7_moves 1 = .ok (.getfield 12, 3) := by decide +kernel
theorem dX7_moves_4 : decode cX7_moves 4 = .ok (.getfield 143, 3) := by decide +kernel
theorem dX7_moves_7 : decode cX7_moves 7 = .ok (.iload_n 1, 1) := by decide +kernel
theorem dX7_moves_8 : decode cX7_moves 8 = .ok (.invokevirtual 147, 3) := by decide +kernel
theorem dX7_moves_11 : decode cX7_moves 11 = .ok (.ifCond .eq 18, 3) := by decide +kernel
theorem dX7_moves_14 : decode cX7_moves 14 = .ok (.aload_n 0, 1) := by decide +kernel
theorem dX7_moves_15 : decode cX7_moves 15 = .ok (.getfield 19, 3) := by decide +kernel
theorem dX7_moves_18 : decode cX7_moves 18 = .ok (.aload_n 0, 1) := by decide +kernel
theorem dX7_moves_19 : decode cX7_moves 19 = .ok (.getfield 12, 3) := by decide +kernel
theorem dX7_moves_22 : decode cX7_moves 22 = .ok (.iload_n 1, 1) := by decide +kernel
theorem dX7_moves_23 : decode cX7_moves 23 = .ok (.invokevirtual 159, 3) := by decide +kernel
theorem dX7_moves_26 : decode cX7_moves 26 = .ok (.goto 4, 3) := by decide +kernel
theorem dX7_moves_29 : decode cX7_moves 29 = .ok (.iconst (-1), 1) := by decide +kernel
theorem dX7_moves_30 : decode cX7_moves 30 = .ok (.ireturn, 1) := by decide +kernel
theorem dX7_roomFor_0 : decode cX7_roomFor 0 = .ok (.aload_n 0, 1) := by decide +kernel
theorem dX7_roomFor_1 : decode cX7_roomFor 1 = .ok (.getfield 12, 3) := by decide +kernel
theorem dX7_roomFor_4 : decode cX7_roomFor 4 = .ok (.aload_n 0, 1) := by decide +kernel
theorem dX7_roomFor_5 : decode cX7_roomFor 5 = .ok (.getfield 12, 3) := by decide +kernel
theorem dX7_roomFor_8 : decode cX7_roomFor 8 = .ok (.getfield 102, 3) := by decide +kernel
theorem dX7_roomFor_11 : decode cX7_roomFor 11 = .ok (.bipush 8, 2) := by decide +kernel
theorem dX7_roomFor_13 : decode cX7_roomFor 13 = .ok (.invokevirtual 162, 3) := by decide +kernel
theorem dX7_roomFor_16 : decode cX7_roomFor 16 = .ok (.invokevirtual 165, 3) := by decide +kernel
theorem dX7_roomFor_19 : decode cX7_roomFor 19 = .ok (.ireturn, 1) := by decide +kernel
theorem dL_cell_0 : decode cL_cell 0 = .ok (.aload_n 0, 1) := by decide +kernel
theorem dL_cell_1 : decode cL_cell 1 = .ok (.arraylength, 1) := by decide +kernel
theorem dL_cell_2 : decode cL_cell 2 = .ok (.ifCond .ne 12, 3) := by decide +kernel
theorem dL_cell_5 : decode cL_cell 5 = .ok (.iload_n 1, 1) := by decide +kernel
theorem dL_cell_6 : decode cL_cell 6 = .ok (.bipush 37, 2) := by decide +kernel
theorem dL_cell_8 : decode cL_cell 8 = .ok (.imul, 1) := by decide +kernel
theorem dL_cell_9 : decode cL_cell 9 = .ok (.iconst 5, 1) := by decide +kernel
theorem dL_cell_10 : decode cL_cell 10 = .ok (.iadd, 1) := by decide +kernel
theorem dL_cell_11 : decode cL_cell 11 = .ok (.goto 17, 3) := by decide +kernel
theorem dL_cell_14 : decode cL_cell 14 = .ok (.aload_n 0, 1) := by decide +kernel
theorem dL_cell_15 : decode cL_cell 15 = .ok (.iload_n 1, 1) := by decide +kernel
theorem dL_cell_16 : decode cL_cell 16 = .ok (.aload_n 0, 1) := by decide +kernel
theorem dL_cell_17 : decode cL_cell 17 = .ok (.arraylength, 1) := by decide +kernel
theorem dL_cell_18 : decode cL_cell 18 = .ok (.irem, 1) := by decide +kernel
theorem dL_cell_19 : decode cL_cell 19 = .ok (.iaload, 1) := by decide +kernel
theorem dL_cell_20 : decode cL_cell 20 = .ok (.iload_n 1, 1) := by decide +kernel
theorem dL_cell_21 : decode cL_cell 21 = .ok (.bipush 7, 2) := by decide +kernel
theorem dL_cell_23 : decode cL_cell 23 = .ok (.irem, 1) := by decide +kernel
theorem dL_cell_24 : decode cL_cell 24 = .ok (.ishr, 1) := by decide +kernel
theorem dL_cell_25 : decode cL_cell 25 = .ok (.ldc 7, 2) := by decide +kernel
theorem dL_cell_27 : decode cL_cell 27 = .ok (.iand, 1) := by decide +kernel
theorem dL_cell_28 : decode cL_cell 28 = .ok (.iload_n 2, 1) := by decide +kernel
theorem dL_cell_29 : decode cL_cell 29 = .ok (.irem, 1) := by decide +kernel
theorem dL_cell_30 : decode cL_cell 30 = .ok (.ireturn, 1) := by decide +kernel
theorem dL_row_0 : decode cL_row 0 = .ok (.iload_n 1, 1) := by decide +kernel
theorem dL_row_1 : decode cL_row 1 = .ok (.ifCond .ge 11, 3) := by decide +kernel
theorem dL_row_4 : decode cL_row 4 = .ok (.aload_n 0, 1) := by decide +kernel
theorem dL_row_5 : decode cL_row 5 = .ok (.iconst 3, 1) := by decide +kernel
theorem dL_row_6 : decode cL_row 6 = .ok (.invokevirtual 8, 3) := by decide +kernel
theorem dL_row_9 : decode cL_row 9 = .ok (.goto 9, 3) := by decide +kernel
theorem dL_row_12 : decode cL_row 12 = .ok (.aload_n 0, 1) := by decide +kernel
theorem dL_row_13 : decode cL_row 13 = .ok (.iload_n 1, 1) := by decide +kernel
theorem dL_row_14 : decode cL_row 14 = .ok (.iconst 1, 1) := by decide +kernel
theorem dL_row_15 : decode cL_row 15 = .ok (.invokevirtual 14, 3) := by decide +kernel
theorem dL_row_18 : decode cL_row 18 = .ok (.istore_n 3, 1) := by decide +kernel
theorem dL_row_19 : decode cL_row 19 = .ok (.iconst 0, 1) := by decide +kernel
theorem dL_row_20 : decode cL_row 20 = .ok (.istore 4, 2) := by decide +kernel
theorem dL_row_22 : decode cL_row 22 = .ok (.iload 4, 2) := by decide +kernel
theorem dL_row_24 : decode cL_row 24 = .ok (.iload_n 3, 1) := by decide +kernel
theorem dL_row_25 : decode cL_row 25 = .ok (.if_icmp .ge 20, 3) := by decide +kernel
theorem dL_row_28 : decode cL_row 28 = .ok (.aload_n 2, 1) := by decide +kernel
theorem dL_row_29 : decode cL_row 29 = .ok (.iload 4, 2) := by decide +kernel
theorem dL_row_31 : decode cL_row 31 = .ok (.aload_n 0, 1) := by decide +kernel
theorem dL_row_32 : decode cL_row 32 = .ok (.iload_n 1, 1) := by decide +kernel
theorem dL_row_33 : decode cL_row 33 = .ok (.iload 4, 2) := by decide +kernel
theorem dL_row_35 : decode cL_row 35 = .ok (.invokevirtual 18, 3) := by decide +kernel
theorem dL_row_38 : decode cL_row 38 = .ok (.iastore, 1) := by decide +kernel
theorem dL_row_39 : decode cL_row 39 = .ok (.iinc 4 1, 3) := by decide +kernel
theorem dL_row_42 : decode cL_row 42 = .ok (.goto (-20), 3) := by decide +kernel
theorem dL_row_45 : decode cL_row 45 = .ok (.aload_n 0, 1) := by decide +kernel
theorem dL_row_46 : decode cL_row 46 = .ok (.iload_n 1, 1) := by decide +kernel
theorem dL_row_47 : decode cL_row 47 = .ok (.iload_n 3, 1) := by decide +kernel
theorem dL_row_48 : decode cL_row 48 = .ok (.invokevirtual 18, 3) := by decide +kernel
theorem dL_row_51 : decode cL_row 51 = .ok (.bipush (-6), 2) := by decide +kernel
theorem dL_row_53 : decode cL_row 53 = .ok (.if_icmp .ne 18, 3) := by decide +kernel
theorem dL_row_56 : decode cL_row 56 = .ok (.aload_n 0, 1) := by decide +kernel
theorem dL_row_57 : decode cL_row 57 = .ok (.iload_n 1, 1) := by decide +kernel
theorem dL_row_58 : decode cL_row 58 = .ok (.iconst (-1), 1) := by decide +kernel
theorem dL_row_59 : decode cL_row 59 = .ok (.invokevirtual 18, 3) := by decide +kernel
theorem dL_row_62 : decode cL_row 62 = .ok (.bipush (-6), 2) := by decide +kernel
theorem dL_row_64 : decode cL_row 64 = .ok (.if_icmp .ne 7, 3) := by decide +kernel
theorem dL_row_67 : decode cL_row 67 = .ok (.iload_n 3, 1) := by decide +kernel
theorem dL_row_68 : decode cL_row 68 = .ok (.goto 4, 3) := by decide +kernel
theorem dL_row_71 : decode cL_row 71 = .ok (.iconst (-1), 1) := by decide +kernel
theorem dL_row_72 : decode cL_row 72 = .ok (.ireturn, 1) := by decide +kernel
theorem dL_lengths_0 : decode cL_lengths 0 = .ok (.iconst 0, 1) := by decide +kernel
theorem dL_lengths_1 : decode cL_lengths 1 = .ok (.istore 4, 2) := by decide +kernel
theorem dL_lengths_3 : decode cL_lengths 3 = .ok (.iload_n 2, 1) := by decide +kernel
theorem dL_lengths_4 : decode cL_lengths 4 = .ok (.istore 5, 2) := by decide +kernel
theorem dL_lengths_6 : decode cL_lengths 6 = .ok (.iload 5, 2) := by decide +kernel
theorem dL_lengths_8 : decode cL_lengths 8 = .ok (.iload_n 3, 1) := by decide +kernel
theorem dL_lengths_9 : decode cL_lengths 9 = .ok (.if_icmp .ge 23, 3) := by decide +kernel
theorem dL_lengths_12 : decode cL_lengths 12 = .ok (.iload 4, 2) := by decide +kernel
theorem dL_lengths_14 : decode cL_lengths 14 = .ok (.aload_n 0, 1) := by decide +kernel
theorem dL_lengths_15 : decode cL_lengths 15 = .ok (.aload_n 1, 1) := by decide +kernel
theorem dL_lengths_16 : decode cL_lengths 16 = .ok (.iload 5, 2) := by decide +kernel
theorem dL_lengths_18 : decode cL_lengths 18 = .ok (.iaload, 1) := by decide +kernel
theorem dL_lengths_19 : decode cL_lengths 19 = .ok (.iconst 0, 1) := by decide +kernel
theorem dL_lengths_20 : decode cL_lengths 20 = .ok (.invokevirtual 21, 3) := by decide +kernel
theorem dL_lengths_23 : decode cL_lengths 23 = .ok (.iadd, 1) := by decide +kernel
theorem dL_lengths_24 : decode cL_lengths 24 = .ok (.istore 4, 2) := by decide +kernel
theorem dL_lengths_26 : decode cL_lengths 26 = .ok (.iinc 5 1, 3) := by decide +kernel
theorem dL_lengths_29 : decode cL_lengths 29 = .ok (.goto (-23), 3) := by decide +kernel
theorem dL_lengths_32 : decode cL_lengths 32 = .ok (.iload 4, 2) := by decide +kernel
theorem dL_lengths_34 : decode cL_lengths 34 = .ok (.ireturn, 1) := by decide +kernel
theorem dL_agree_0 : decode cL_agree 0 = .ok (.bipush 32, 2) := by decide +kernel
theorem dL_agree_2 : decode cL_agree 2 = .ok (.newarray .int, 2) := by decide +kernel
theorem dL_agree_4 : decode cL_agree 4 = .ok (.astore_n 1, 1) := by decide +kernel
theorem dL_agree_5 : decode cL_agree 5 = .ok (.iconst 0, 1) := by decide +kernel
theorem dL_agree_6 : decode cL_agree 6 = .ok (.istore_n 2, 1) := by decide +kernel
theorem dL_agree_7 : decode cL_agree 7 = .ok (.aload_n 0, 1) := by decide +kernel
theorem dL_agree_8 : decode cL_agree 8 = .ok (.bipush (-6), 2) := by decide +kernel
theorem dL_agree_10 : decode cL_agree 10 = .ok (.aload_n 1, 1) := by decide +kernel
theorem dL_agree_11 : decode cL_agree 11 = .ok (.invokestatic 24, 3) := by decide +kernel
theorem dL_agree_14 : decode cL_agree 14 = .ok (.istore_n 3, 1) := by decide +kernel
theorem dL_agree_15 : decode cL_agree 15 = .ok (.iload_n 3, 1) := by decide +kernel
theorem dL_agree_16 : decode cL_agree 16 = .ok (.aload_n 0, 1) := by decide +kernel
theorem dL_agree_17 : decode cL_agree 17 = .ok (.iconst 3, 1) := by decide +kernel
theorem dL_agree_18 : decode cL_agree 18 = .ok (.invokevirtual 8, 3) := by decide +kernel
theorem dL_agree_21 : decode cL_agree 21 = .ok (.if_icmp .ne 18, 3) := by decide +kernel
theorem dL_agree_24 : decode cL_agree 24 = .ok (.aload_n 0, 1) := by decide +kernel
theorem dL_agree_25 : decode cL_agree 25 = .ok (.aload_n 1, 1) := by decide +kernel
theorem dL_agree_26 : decode cL_agree 26 = .ok (.iconst 0, 1) := by decide +kernel
theorem dL_agree_27 : decode cL_agree 27 = .ok (.iload_n 3, 1) := by decide +kernel
theorem dL_agree_28 : decode cL_agree 28 = .ok (.invokestatic 30, 3) := by decide +kernel
theorem dL_agree_31 : decode cL_agree 31 = .ok (.aload_n 0, 1) := by decide +kernel
theorem dL_agree_32 : decode cL_agree 32 = .ok (.iconst 4, 1) := by decide +kernel
theorem dL_agree_33 : decode cL_agree 33 = .ok (.invokevirtual 8, 3) := by decide +kernel
theorem dL_agree_36 : decode cL_agree 36 = .ok (.if_icmp .eq 5, 3) := by decide +kernel
theorem dL_agree_39 : decode cL_agree 39 = .ok (.iconst 0, 1) := by decide +kernel
theorem dL_agree_40 : decode cL_agree 40 = .ok (.ireturn, 1) := by decide +kernel
theorem dL_agree_41 : decode cL_agree 41 = .ok (.iconst 0, 1) := by decide +kernel
theorem dL_agree_42 : decode cL_agree 42 = .ok (.istore 4, 2) := by decide +kernel
theorem dL_agree_44 : decode cL_agree 44 = .ok (.iload 4, 2) := by decide +kernel
theorem dL_agree_46 : decode cL_agree 46 = .ok (.iload_n 3, 1) := by decide +kernel
theorem dL_agree_47 : decode cL_agree 47 = .ok (.if_icmp .ge 76, 3) := by decide +kernel
theorem dL_agree_50 : decode cL_agree 50 = .ok (.iload_n 2, 1) := by decide +kernel
theorem dL_agree_51 : decode cL_agree 51 = .ok (.iconst 1, 1) := by decide +kernel
theorem dL_agree_52 : decode cL_agree 52 = .ok (.aload_n 1, 1) := by decide +kernel
theorem dL_agree_53 : decode cL_agree 53 = .ok (.iload 4, 2) := by decide +kernel
theorem dL_agree_55 : decode cL_agree 55 = .ok (.iaload, 1) := by decide +kernel
theorem dL_agree_56 : decode cL_agree 56 = .ok (.ishl, 1) := by decide +kernel
theorem dL_agree_57 : decode cL_agree 57 = .ok (.ior, 1) := by decide +kernel
theorem dL_agree_58 : decode cL_agree 58 = .ok (.istore_n 2, 1) := by decide +kernel
theorem dL_agree_59 : decode cL_agree 59 = .ok (.aload_n 0, 1) := by decide +kernel
theorem dL_agree_60 : decode cL_agree 60 = .ok (.aload_n 1, 1) := by decide +kernel
theorem dL_agree_61 : decode cL_agree 61 = .ok (.iload 4, 2) := by decide +kernel
theorem dL_agree_63 : decode cL_agree 63 = .ok (.iaload, 1) := by decide +kernel
theorem dL_agree_64 : decode cL_agree 64 = .ok (.iconst 1, 1) := by decide +kernel
theorem dL_agree_65 : decode cL_agree 65 = .ok (.invokevirtual 21, 3) := by decide +kernel
theorem dL_agree_68 : decode cL_agree 68 = .ok (.bipush (-6), 2) := by decide +kernel
theorem dL_agree_70 : decode cL_agree 70 = .ok (.if_icmp .ne 45, 3) := by decide +kernel
theorem dL_agree_73 : decode cL_agree 73 = .ok (.aload_n 0, 1) := by decide +kernel
theorem dL_agree_74 : decode cL_agree 74 = .ok (.aload_n 1, 1) := by decide +kernel
theorem dL_agree_75 : decode cL_agree 75 = .ok (.iload 4, 2) := by decide +kernel
theorem dL_agree_77 : decode cL_agree 77 = .ok (.iaload, 1) := by decide +kernel
theorem dL_agree_78 : decode cL_agree 78 = .ok (.iconst 2, 1) := by decide +kernel
theorem dL_agree_79 : decode cL_agree 79 = .ok (.invokevirtual 21, 3) := by decide +kernel
theorem dL_agree_82 : decode cL_agree 82 = .ok (.iload 4, 2) := by decide +kernel
theorem dL_agree_84 : decode cL_agree 84 = .ok (.if_icmp .ne 31, 3) := by decide +kernel
theorem dL_agree_87 : decode cL_agree 87 = .ok (.aload_n 0, 1) := by decide +kernel
theorem dL_agree_88 : decode cL_agree 88 = .ok (.aload_n 1, 1) := by decide +kernel
theorem dL_agree_89 : decode cL_agree 89 = .ok (.iload 4, 2) := by decide +kernel
theorem dL_agree_91 : decode cL_agree 91 = .ok (.iaload, 1) := by decide +kernel
theorem dL_agree_92 : decode cL_agree 92 = .ok (.iconst 3, 1) := by decide +kernel
theorem dL_agree_93 : decode cL_agree 93 = .ok (.invokevirtual 21, 3) := by decide +kernel
theorem dL_agree_96 : decode cL_agree 96 = .ok (.iconst 1, 1) := by decide +kernel
theorem dL_agree_97 : decode cL_agree 97 = .ok (.if_icmp .ne 18, 3) := by decide +kernel
theorem dL_agree_100 : decode cL_agree 100 = .ok (.aload_n 0, 1) := by decide +kernel
theorem dL_agree_101 : decode cL_agree 101 = .ok (.aload_n 1, 1) := by decide +kernel
theorem dL_agree_102 : decode cL_agree 102 = .ok (.iload 4, 2) := by decide +kernel
theorem dL_agree_104 : decode cL_agree 104 = .ok (.iaload, 1) := by decide +kernel
theorem dL_agree_105 : decode cL_agree 105 = .ok (.bipush 7, 2) := by decide +kernel
theorem dL_agree_107 : decode cL_agree 107 = .ok (.invokevirtual 21, 3) := by decide +kernel
theorem dL_agree_110 : decode cL_agree 110 = .ok (.bipush (-6), 2) := by decide +kernel
theorem dL_agree_112 : decode cL_agree 112 = .ok (.if_icmp .eq 5, 3) := by decide +kernel
theorem dL_agree_115 : decode cL_agree 115 = .ok (.iconst 0, 1) := by decide +kernel
theorem dL_agree_116 : decode cL_agree 116 = .ok (.ireturn, 1) := by decide +kernel
theorem dL_agree_117 : decode cL_agree 117 = .ok (.iinc 4 1, 3) := by decide +kernel
theorem dL_agree_120 : decode cL_agree 120 = .ok (.goto (-76), 3) := by decide +kernel
theorem dL_agree_123 : decode cL_agree 123 = .ok (.iconst 0, 1) := by decide +kernel
theorem dL_agree_124 : decode cL_agree 124 = .ok (.istore 4, 2) := by decide +kernel
theorem dL_agree_126 : decode cL_agree 126 = .ok (.iload 4, 2) := by decide +kernel
theorem dL_agree_128 : decode cL_agree 128 = .ok (.aload_n 0, 1) := by decide +kernel
theorem dL_agree_129 : decode cL_agree 129 = .ok (.iconst 1, 1) := by decide +kernel
theorem dL_agree_130 : decode cL_agree 130 = .ok (.invokevirtual 8, 3) := by decide +kernel
theorem dL_agree_133 : decode cL_agree 133 = .ok (.if_icmp .ge 154, 3) := by decide +kernel
theorem dL_agree_136 : decode cL_agree 136 = .ok (.aload_n 0, 1) := by decide +kernel
theorem dL_agree_137 : decode cL_agree 137 = .ok (.iload 4, 2) := by decide +kernel
theorem dL_agree_139 : decode cL_agree 139 = .ok (.aload_n 1, 1) := by decide +kernel
theorem dL_agree_140 : decode cL_agree 140 = .ok (.invokestatic 24, 3) := by decide +kernel
theorem dL_agree_143 : decode cL_agree 143 = .ok (.istore 5, 2) := by decide +kernel
theorem dL_agree_145 : decode cL_agree 145 = .ok (.iload 5, 2) := by decide +kernel
theorem dL_agree_147 : decode cL_agree 147 = .ok (.ifCond .lt 38, 3) := by decide +kernel
theorem dL_agree_150 : decode cL_agree 150 = .ok (.aload_n 0, 1) := by decide +kernel
theorem dL_agree_151 : decode cL_agree 151 = .ok (.aload_n 1, 1) := by decide +kernel
theorem dL_agree_152 : decode cL_agree 152 = .ok (.iconst 0, 1) := by decide +kernel
theorem dL_agree_153 : decode cL_agree 153 = .ok (.iload 5, 2) := by decide +kernel
theorem dL_agree_155 : decode cL_agree 155 = .ok (.invokestatic 30, 3) := by decide +kernel
theorem dL_agree_158 : decode cL_agree 158 = .ok (.aload_n 0, 1) := by decide +kernel
theorem dL_agree_159 : decode cL_agree 159 = .ok (.iload 4, 2) := by decide +kernel
theorem dL_agree_161 : decode cL_agree 161 = .ok (.iconst 2, 1) := by decide +kernel
theorem dL_agree_162 : decode cL_agree 162 = .ok (.invokevirtual 14, 3) := by decide +kernel
theorem dL_agree_165 : decode cL_agree 165 = .ok (.if_icmp .ne 20, 3) := by decide +kernel
theorem dL_agree_168 : decode cL_agree 168 = .ok (.aload_n 0, 1) := by decide +kernel
theorem dL_agree_169 : decode cL_agree 169 = .ok (.iload 4, 2) := by decide +kernel
theorem dL_agree_171 : decode cL_agree 171 = .ok (.iconst 2, 1) := by decide +kernel
theorem dL_agree_172 : decode cL_agree 172 = .ok (.invokevirtual 14, 3) := by decide +kernel
theorem dL_agree_175 : decode cL_agree 175 = .ok (.aload_n 0, 1) := by decide +kernel
theorem dL_agree_176 : decode cL_agree 176 = .ok (.iload 4, 2) := by decide +kernel
theorem dL_agree_178 : decode cL_agree 178 = .ok (.iconst 0, 1) := by decide +kernel
theorem dL_agree_179 : decode cL_agree 179 = .ok (.invokevirtual 14, 3) := by decide +kernel
theorem dL_agree_182 : decode cL_agree 182 = .ok (.if_icmp .le 5, 3) := by decide +kernel
theorem dL_agree_185 : decode cL_agree 185 = .ok (.iconst 0, 1) := by decide +kernel
theorem dL_agree_186 : decode cL_agree 186 = .ok (.ireturn, 1) := by decide +kernel
theorem dL_agree_187 : decode cL_agree 187 = .ok (.iconst 0, 1) := by decide +kernel
theorem dL_agree_188 : decode cL_agree 188 = .ok (.istore 6, 2) := by decide +kernel
theorem dL_agree_190 : decode cL_agree 190 = .ok (.iload 6, 2) := by decide +kernel
theorem dL_agree_192 : decode cL_agree 192 = .ok (.iload 5, 2) := by decide +kernel
theorem dL_agree_194 : decode cL_agree 194 = .ok (.if_icmp .ge 87, 3) := by decide +kernel
theorem dL_agree_197 : decode cL_agree 197 = .ok (.iload_n 2, 1) := by decide +kernel
theorem dL_agree_198 : decode cL_agree 198 = .ok (.aload_n 1, 1) := by decide +kernel
theorem dL_agree_199 : decode cL_agree 199 = .ok (.iload 6, 2) := by decide +kernel
theorem dL_agree_201 : decode cL_agree 201 = .ok (.iaload, 1) := by decide +kernel
theorem dL_agree_202 : decode cL_agree 202 = .ok (.ishr, 1) := by decide +kernel
theorem dL_agree_203 : decode cL_agree 203 = .ok (.iconst 1, 1) := by decide +kernel
theorem dL_agree_204 : decode cL_agree 204 = .ok (.iand, 1) := by decide +kernel
theorem dL_agree_205 : decode cL_agree 205 = .ok (.iconst 1, 1) := by decide +kernel
theorem dL_agree_206 : decode cL_agree 206 = .ok (.if_icmp .eq 58, 3) := by decide +kernel
theorem dL_agree_209 : decode cL_agree 209 = .ok (.aload_n 0, 1) := by decide +kernel
theorem dL_agree_210 : decode cL_agree 210 = .ok (.aload_n 1, 1) := by decide +kernel
theorem dL_agree_211 : decode cL_agree 211 = .ok (.iload 6, 2) := by decide +kernel
theorem dL_agree_213 : decode cL_agree 213 = .ok (.iaload, 1) := by decide +kernel
theorem dL_agree_214 : decode cL_agree 214 = .ok (.iconst 1, 1) := by decide +kernel
theorem dL_agree_215 : decode cL_agree 215 = .ok (.invokevirtual 21, 3) := by decide +kernel
theorem dL_agree_218 : decode cL_agree 218 = .ok (.iload 4, 2) := by decide +kernel
theorem dL_agree_220 : decode cL_agree 220 = .ok (.if_icmp .ne 44, 3) := by decide +kernel
theorem dL_agree_223 : decode cL_agree 223 = .ok (.aload_n 0, 1) := by decide +kernel
theorem dL_agree_224 : decode cL_agree 224 = .ok (.aload_n 1, 1) := by decide +kernel
theorem dL_agree_225 : decode cL_agree 225 = .ok (.iload 6, 2) := by decide +kernel
theorem dL_agree_227 : decode cL_agree 227 = .ok (.iaload, 1) := by decide +kernel
theorem dL_agree_228 : decode cL_agree 228 = .ok (.iconst 2, 1) := by decide +kernel
theorem dL_agree_229 : decode cL_agree 229 = .ok (.invokevirtual 21, 3) := by decide +kernel
theorem dL_agree_232 : decode cL_agree 232 = .ok (.iload 6, 2) := by decide +kernel
theorem dL_agree_234 : decode cL_agree 234 = .ok (.if_icmp .ne 30, 3) := by decide +kernel
theorem dL_agree_237 : decode cL_agree 237 = .ok (.aload_n 0, 1) := by decide +kernel
theorem dL_agree_238 : decode cL_agree 238 = .ok (.aload_n 1, 1) := by decide +kernel
theorem dL_agree_239 : decode cL_agree 239 = .ok (.iload 6, 2) := by decide +kernel
theorem dL_agree_241 : decode cL_agree 241 = .ok (.iaload, 1) := by decide +kernel
theorem dL_agree_242 : decode cL_agree 242 = .ok (.iconst 3, 1) := by decide +kernel
theorem dL_agree_243 : decode cL_agree 243 = .ok (.invokevirtual 21, 3) := by decide +kernel
theorem dL_agree_246 : decode cL_agree 246 = .ok (.ifCond .ne 18, 3) := by decide +kernel
theorem dL_agree_249 : decode cL_agree 249 = .ok (.aload_n 0, 1) := by decide +kernel
theorem dL_agree_250 : decode cL_agree 250 = .ok (.aload_n 1, 1) := by decide +kernel
theorem dL_agree_251 : decode cL_agree 251 = .ok (.iload 6, 2) := by decide +kernel
theorem dL_agree_253 : decode cL_agree 253 = .ok (.iaload, 1) := by decide +kernel
theorem dL_agree_254 : decode cL_agree 254 = .ok (.bipush 7, 2) := by decide +kernel
theorem dL_agree_256 : decode cL_agree 256 = .ok (.invokevirtual 21, 3) := by decide +kernel
theorem dL_agree_259 : decode cL_agree 259 = .ok (.iload 6, 2) := by decide +kernel
theorem dL_agree_261 : decode cL_agree 261 = .ok (.if_icmp .eq 5, 3) := by decide +kernel
theorem dL_agree_264 : decode cL_agree 264 = .ok (.iconst 0, 1) := by decide +kernel
theorem dL_agree_265 : decode cL_agree 265 = .ok (.ireturn, 1) := by decide +kernel
theorem dL_agree_266 : decode cL_agree 266 = .ok (.iload_n 2, 1) := by decide +kernel
theorem dL_agree_267 : decode cL_agree 267 = .ok (.iconst 1, 1) := by decide +kernel
theorem dL_agree_268 : decode cL_agree 268 = .ok (.aload_n 1, 1) := by decide +kernel
theorem dL_agree_269 : decode cL_agree 269 = .ok (.iload 6, 2) := by decide +kernel
theorem dL_agree_271 : decode cL_agree 271 = .ok (.iaload, 1) := by decide +kernel
theorem dL_agree_272 : decode cL_agree 272 = .ok (.ishl, 1) := by decide +kernel
theorem dL_agree_273 : decode cL_agree 273 = .ok (.ior, 1) := by decide +kernel
theorem dL_agree_274 : decode cL_agree 274 = .ok (.istore_n 2, 1) := by decide +kernel
theorem dL_agree_275 : decode cL_agree 275 = .ok (.iinc 6 1, 3) := by decide +kernel
theorem dL_agree_278 : decode cL_agree 278 = .ok (.goto (-88), 3) := by decide +kernel
theorem dL_agree_281 : decode cL_agree 281 = .ok (.iinc 4 1, 3) := by decide +kernel
theorem dL_agree_284 : decode cL_agree 284 = .ok (.goto (-158), 3) := by decide +kernel
theorem dL_agree_287 : decode cL_agree 287 = .ok (.iconst 0, 1) := by decide +kernel
theorem dL_agree_288 : decode cL_agree 288 = .ok (.istore 4, 2) := by decide +kernel
theorem dL_agree_290 : decode cL_agree 290 = .ok (.iconst 0, 1) := by decide +kernel
theorem dL_agree_291 : decode cL_agree 291 = .ok (.istore 5, 2) := by decide +kernel
theorem dL_agree_293 : decode cL_agree 293 = .ok (.iload 5, 2) := by decide +kernel
theorem dL_agree_295 : decode cL_agree 295 = .ok (.aload_n 0, 1) := by decide +kernel
theorem dL_agree_296 : decode cL_agree 296 = .ok (.iconst 2, 1) := by decide +kernel
theorem dL_agree_297 : decode cL_agree 297 = .ok (.invokevirtual 8, 3) := by decide +kernel
theorem dL_agree_300 : decode cL_agree 300 = .ok (.if_icmp .ge 95, 3) := by decide +kernel
theorem dL_agree_303 : decode cL_agree 303 = .ok (.aload_n 0, 1) := by decide +kernel
theorem dL_agree_304 : decode cL_agree 304 = .ok (.iload 5, 2) := by decide +kernel
theorem dL_agree_306 : decode cL_agree 306 = .ok (.iconst 4, 1) := by decide +kernel
theorem dL_agree_307 : decode cL_agree 307 = .ok (.invokevirtual 21, 3) := by decide +kernel
theorem dL_agree_310 : decode cL_agree 310 = .ok (.ifCond .lt 7, 3) := by decide +kernel
theorem dL_agree_313 : decode cL_agree 313 = .ok (.iconst 1, 1) := by decide +kernel
theorem dL_agree_314 : decode cL_agree 314 = .ok (.goto 4, 3) := by decide +kernel
theorem dL_agree_317 : decode cL_agree 317 = .ok (.iconst 0, 1) := by decide +kernel
theorem dL_agree_318 : decode cL_agree 318 = .ok (.istore 6, 2) := by decide +kernel
theorem dL_agree_320 : decode cL_agree 320 = .ok (.iload 4, 2) := by decide +kernel
theorem dL_agree_322 : decode cL_agree 322 = .ok (.iload 6, 2) := by decide +kernel
theorem dL_agree_324 : decode cL_agree 324 = .ok (.ifCond .eq 7, 3) := by decide +kernel
theorem dL_agree_327 : decode cL_agree 327 = .ok (.iconst 1, 1) := by decide +kernel
theorem dL_agree_328 : decode cL_agree 328 = .ok (.goto 4, 3) := by decide +kernel
theorem dL_agree_331 : decode cL_agree 331 = .ok (.iconst 0, 1) := by decide +kernel
theorem dL_agree_332 : decode cL_agree 332 = .ok (.iadd, 1) := by decide +kernel
theorem dL_agree_333 : decode cL_agree 333 = .ok (.istore 4, 2) := by decide +kernel
theorem dL_agree_335 : decode cL_agree 335 = .ok (.iload 6, 2) := by decide +kernel
theorem dL_agree_337 : decode cL_agree 337 = .ok (.iload_n 2, 1) := by decide +kernel
theorem dL_agree_338 : decode cL_agree 338 = .ok (.iload 5, 2) := by decide +kernel
theorem dL_agree_340 : decode cL_agree 340 = .ok (.ishr, 1) := by decide +kernel
theorem dL_agree_341 : decode cL_agree 341 = .ok (.iconst 1, 1) := by decide +kernel
theorem dL_agree_342 : decode cL_agree 342 = .ok (.iand, 1) := by decide +kernel
theorem dL_agree_343 : decode cL_agree 343 = .ok (.iconst 1, 1) := by decide +kernel
theorem dL_agree_344 : decode cL_agree 344 = .ok (.if_icmp .ne 7, 3) := by decide +kernel
theorem dL_agree_347 : decode cL_agree 347 = .ok (.iconst 1, 1) := by decide +kernel
theorem dL_agree_348 : decode cL_agree 348 = .ok (.goto 4, 3) := by decide +kernel
theorem dL_agree_351 : decode cL_agree 351 = .ok (.iconst 0, 1) := by decide +kernel
theorem dL_agree_352 : decode cL_agree 352 = .ok (.if_icmp .eq 35, 3) := by decide +kernel
theorem dL_agree_355 : decode cL_agree 355 = .ok (.iload 6, 2) := by decide +kernel
theorem dL_agree_357 : decode cL_agree 357 = .ok (.ifCond .eq 32, 3) := by decide +kernel
theorem dL_agree_360 : decode cL_agree 360 = .ok (.aload_n 0, 1) := by decide +kernel
theorem dL_agree_361 : decode cL_agree 361 = .ok (.iload 5, 2) := by decide +kernel
theorem dL_agree_363 : decode cL_agree 363 = .ok (.iconst 2, 1) := by decide +kernel
theorem dL_agree_364 : decode cL_agree 364 = .ok (.invokevirtual 21, 3) := by decide +kernel
theorem dL_agree_367 : decode cL_agree 367 = .ok (.bipush (-6), 2) := by decide +kernel
theorem dL_agree_369 : decode cL_agree 369 = .ok (.if_icmp .ne 18, 3) := by decide +kernel
theorem dL_agree_372 : decode cL_agree 372 = .ok (.aload_n 0, 1) := by decide +kernel
theorem dL_agree_373 : decode cL_agree 373 = .ok (.iload 5, 2) := by decide +kernel
theorem dL_agree_375 : decode cL_agree 375 = .ok (.iconst 4, 1) := by decide +kernel
theorem dL_agree_376 : decode cL_agree 376 = .ok (.invokevirtual 21, 3) := by decide +kernel
theorem dL_agree_379 : decode cL_agree 379 = .ok (.aload_n 0, 1) := by decide +kernel
theorem dL_agree_380 : decode cL_agree 380 = .ok (.iconst 0, 1) := by decide +kernel
theorem dL_agree_381 : decode cL_agree 381 = .ok (.invokevirtual 8, 3) := by decide +kernel
theorem dL_agree_384 : decode cL_agree 384 = .ok (.if_icmp .le 5, 3) := by decide +kernel
theorem dL_agree_387 : decode cL_agree 387 = .ok (.iconst 0, 1) := by decide +kernel
theorem dL_agree_388 : decode cL_agree 388 = .ok (.ireturn, 1) := by decide +kernel
theorem dL_agree_389 : decode cL_agree 389 = .ok (.iinc 5 1, 3) := by decide +kernel
theorem dL_agree_392 : decode cL_agree 392 = .ok (.goto (-99), 3) := by decide +kernel
theorem dL_agree_395 : decode cL_agree 395 = .ok (.iload 4, 2) := by decide +kernel
theorem dL_agree_397 : decode cL_agree 397 = .ok (.aload_n 0, 1) := by decide +kernel
theorem dL_agree_398 : decode cL_agree 398 = .ok (.iconst 5, 1) := by decide +kernel
theorem dL_agree_399 : decode cL_agree 399 = .ok (.invokevirtual 8, 3) := by decide +kernel
theorem dL_agree_402 : decode cL_agree 402 = .ok (.if_icmp .ne 7, 3) := by decide +kernel
theorem dL_agree_405 : decode cL_agree 405 = .ok (.iconst 1, 1) := by decide +kernel
theorem dL_agree_406 : decode cL_agree 406 = .ok (.goto 4, 3) := by decide +kernel
theorem dL_agree_409 : decode cL_agree 409 = .ok (.iconst 0, 1) := by decide +kernel
theorem dL_agree_410 : decode cL_agree 410 = .ok (.ireturn, 1) := by decide +kernel
theorem dL_isTimed_0 : decode cL_isTimed 0 = .ok (.aload_n 0, 1) := by decide +kernel
theorem dL_isTimed_1 : decode cL_isTimed 1 = .ok (.iconst 0, 1) := by decide +kernel
theorem dL_isTimed_2 : decode cL_isTimed 2 = .ok (.invokevirtual 8, 3) := by decide +kernel
theorem dL_isTimed_5 : decode cL_isTimed 5 = .ok (.iload_n 2, 1) := by decide +kernel
theorem dL_isTimed_6 : decode cL_isTimed 6 = .ok (.iload_n 3, 1) := by decide +kernel
theorem dL_isTimed_7 : decode cL_isTimed 7 = .ok (.iadd, 1) := by decide +kernel
theorem dL_isTimed_8 : decode cL_isTimed 8 = .ok (.if_icmp .ne 49, 3) := by decide +kernel
theorem dL_isTimed_11 : decode cL_isTimed 11 = .ok (.aload_n 0, 1) := by decide +kernel
theorem dL_isTimed_12 : decode cL_isTimed 12 = .ok (.bipush 9, 2) := by decide +kernel
theorem dL_isTimed_14 : decode cL_isTimed 14 = .ok (.invokevirtual 8, 3) := by decide +kernel
theorem dL_isTimed_17 : decode cL_isTimed 17 = .ok (.iload 5, 2) := by decide +kernel
theorem dL_isTimed_19 : decode cL_isTimed 19 = .ok (.iload 4, 2) := by decide +kernel
theorem dL_isTimed_21 : decode cL_isTimed 21 = .ok (.iadd, 1) := by decide +kernel
theorem dL_isTimed_22 : decode cL_isTimed 22 = .ok (.if_icmp .ne 35, 3) := by decide +kernel
theorem dL_isTimed_25 : decode cL_isTimed 25 = .ok (.aload_n 0, 1) := by decide +kernel
theorem dL_isTimed_26 : decode cL_isTimed 26 = .ok (.bipush 10, 2) := by decide +kernel
theorem dL_isTimed_28 : decode cL_isTimed 28 = .ok (.invokevirtual 8, 3) := by decide +kernel
theorem dL_isTimed_31 : decode cL_isTimed 31 = .ok (.iload 6, 2) := by decide +kernel
theorem dL_isTimed_33 : decode cL_isTimed 33 = .ok (.iconst 1, 1) := by decide +kernel
theorem dL_isTimed_34 : decode cL_isTimed 34 = .ok (.iadd, 1) := by decide +kernel
theorem dL_isTimed_35 : decode cL_isTimed 35 = .ok (.if_icmp .ne 22, 3) := by decide +kernel
theorem dL_isTimed_38 : decode cL_isTimed 38 = .ok (.aload_n 0, 1) := by decide +kernel
theorem dL_isTimed_39 : decode cL_isTimed 39 = .ok (.bipush 11, 2) := by decide +kernel
theorem dL_isTimed_41 : decode cL_isTimed 41 = .ok (.invokevirtual 8, 3) := by decide +kernel
theorem dL_isTimed_44 : decode cL_isTimed 44 = .ok (.iload 7, 2) := by decide +kernel
theorem dL_isTimed_46 : decode cL_isTimed 46 = .ok (.iload_n 2, 1) := by decide +kernel
theorem dL_isTimed_47 : decode cL_isTimed 47 = .ok (.iadd, 1) := by decide +kernel
theorem dL_isTimed_48 : decode cL_isTimed 48 = .ok (.iload_n 1, 1) := by decide +kernel
theorem dL_isTimed_49 : decode cL_isTimed 49 = .ok (.isub, 1) := by decide +kernel
theorem dL_isTimed_50 : decode cL_isTimed 50 = .ok (.if_icmp .ne 7, 3) := by decide +kernel
theorem dL_isTimed_53 : decode cL_isTimed 53 = .ok (.iconst 1, 1) := by decide +kernel
theorem dL_isTimed_54 : decode cL_isTimed 54 = .ok (.goto 4, 3) := by decide +kernel
theorem dL_isTimed_57 : decode cL_isTimed 57 = .ok (.iconst 0, 1) := by decide +kernel
theorem dL_isTimed_58 : decode cL_isTimed 58 = .ok (.ireturn, 1) := by decide +kernel
theorem dL_isPulled_0 : decode cL_isPulled 0 = .ok (.iload_n 1, 1) := by decide +kernel
theorem dL_isPulled_1 : decode cL_isPulled 1 = .ok (.aload_n 0, 1) := by decide +kernel
theorem dL_isPulled_2 : decode cL_isPulled 2 = .ok (.iconst 1, 1) := by decide +kernel
theorem dL_isPulled_3 : decode cL_isPulled 3 = .ok (.invokevirtual 8, 3) := by decide +kernel
theorem dL_isPulled_6 : decode cL_isPulled 6 = .ok (.if_icmp .lt 19, 3) := by decide +kernel
theorem dL_isPulled_9 : decode cL_isPulled 9 = .ok (.aload_n 0, 1) := by decide +kernel
theorem dL_isPulled_10 : decode cL_isPulled 10 = .ok (.iload_n 1, 1) := by decide +kernel
theorem dL_isPulled_11 : decode cL_isPulled 11 = .ok (.iload_n 2, 1) := by decide +kernel
theorem dL_isPulled_12 : decode cL_isPulled 12 = .ok (.invokevirtual 34, 3) := by decide +kernel
theorem dL_isPulled_15 : decode cL_isPulled 15 = .ok (.iconst (-1), 1) := by decide +kernel
theorem dL_isPulled_16 : decode cL_isPulled 16 = .ok (.if_icmp .ne 7, 3) := by decide +kernel
theorem dL_isPulled_19 : decode cL_isPulled 19 = .ok (.iconst 1, 1) := by decide +kernel
theorem dL_isPulled_20 : decode cL_isPulled 20 = .ok (.goto 4, 3) := by decide +kernel
theorem dL_isPulled_23 : decode cL_isPulled 23 = .ok (.iconst 0, 1) := by decide +kernel
theorem dL_isPulled_24 : decode cL_isPulled 24 = .ok (.ireturn, 1) := by decide +kernel
theorem dL_isPulled_25 : decode cL_isPulled 25 = .ok (.bipush 32, 2) := by decide +kernel
theorem dL_isPulled_27 : decode cL_isPulled 27 = .ok (.newarray .int, 2) := by decide +kernel
theorem dL_isPulled_29 : decode cL_isPulled 29 = .ok (.astore_n 3, 1) := by decide +kernel
theorem dL_isPulled_30 : decode cL_isPulled 30 = .ok (.bipush 32, 2) := by decide +kernel
theorem dL_isPulled_32 : decode cL_isPulled 32 = .ok (.newarray .int, 2) := by decide +kernel
theorem dL_isPulled_34 : decode cL_isPulled 34 = .ok (.astore 4, 2) := by decide +kernel
theorem dL_isPulled_36 : decode cL_isPulled 36 = .ok (.aload_n 0, 1) := by decide +kernel
theorem dL_isPulled_37 : decode cL_isPulled 37 = .ok (.bipush (-6), 2) := by decide +kernel
theorem dL_isPulled_39 : decode cL_isPulled 39 = .ok (.aload_n 3, 1) := by decide +kernel
theorem dL_isPulled_40 : decode cL_isPulled 40 = .ok (.invokestatic 24, 3) := by decide +kernel
theorem dL_isPulled_43 : decode cL_isPulled 43 = .ok (.istore 5, 2) := by decide +kernel
theorem dL_isPulled_45 : decode cL_isPulled 45 = .ok (.aload_n 0, 1) := by decide +kernel
theorem dL_isPulled_46 : decode cL_isPulled 46 = .ok (.iload_n 1, 1) := by decide +kernel
theorem dL_isPulled_47 : decode cL_isPulled 47 = .ok (.aload 4, 2) := by decide +kernel
theorem dL_isPulled_49 : decode cL_isPulled 49 = .ok (.invokestatic 24, 3) := by decide +kernel
theorem dL_isPulled_52 : decode cL_isPulled 52 = .ok (.istore 6, 2) := by decide +kernel
theorem dL_isPulled_54 : decode cL_isPulled 54 = .ok (.iload_n 2, 1) := by decide +kernel
theorem dL_isPulled_55 : decode cL_isPulled 55 = .ok (.iload 6, 2) := by decide +kernel
theorem dL_isPulled_57 : decode cL_isPulled 57 = .ok (.if_icmp .gt 41, 3) := by decide +kernel
theorem dL_isPulled_60 : decode cL_isPulled 60 = .ok (.aload_n 0, 1) := by decide +kernel
theorem dL_isPulled_61 : decode cL_isPulled 61 = .ok (.iconst 4, 1) := by decide +kernel
theorem dL_isPulled_62 : decode cL_isPulled 62 = .ok (.invokevirtual 8, 3) := by decide +kernel
theorem dL_isPulled_65 : decode cL_isPulled 65 = .ok (.aload_n 0, 1) := by decide +kernel
theorem dL_isPulled_66 : decode cL_isPulled 66 = .ok (.aload 4, 2) := by decide +kernel
theorem dL_isPulled_68 : decode cL_isPulled 68 = .ok (.iconst 0, 1) := by decide +kernel
theorem dL_isPulled_69 : decode cL_isPulled 69 = .ok (.iload_n 2, 1) := by decide +kernel
theorem dL_isPulled_70 : decode cL_isPulled 70 = .ok (.iload 6, 2) := by decide +kernel
theorem dL_isPulled_72 : decode cL_isPulled 72 = .ok (.if_icmp .ge 7, 3) := by decide +kernel
theorem dL_isPulled_75 : decode cL_isPulled 75 = .ok (.iload_n 2, 1) := by decide +kernel
theorem dL_isPulled_76 : decode cL_isPulled 76 = .ok (.goto 5, 3) := by decide +kernel
theorem dL_isPulled_79 : decode cL_isPulled 79 = .ok (.iload 6, 2) := by decide +kernel
theorem dL_isPulled_81 : decode cL_isPulled 81 = .ok (.invokestatic 30, 3) := by decide +kernel
theorem dL_isPulled_84 : decode cL_isPulled 84 = .ok (.iadd, 1) := by decide +kernel
theorem dL_isPulled_85 : decode cL_isPulled 85 = .ok (.aload_n 0, 1) := by decide +kernel
theorem dL_isPulled_86 : decode cL_isPulled 86 = .ok (.bipush 15, 2) := by decide +kernel
theorem dL_isPulled_88 : decode cL_isPulled 88 = .ok (.invokevirtual 8, 3) := by decide +kernel
theorem dL_isPulled_91 : decode cL_isPulled 91 = .ok (.if_icmp .gt 7, 3) := by decide +kernel
theorem dL_isPulled_94 : decode cL_isPulled 94 = .ok (.iconst 1, 1) := by decide +kernel
theorem dL_isPulled_95 : decode cL_isPulled 95 = .ok (.goto 4, 3) := by decide +kernel
theorem dL_isPulled_98 : decode cL_isPulled 98 = .ok (.iconst 0, 1) := by decide +kernel
theorem dL_isPulled_99 : decode cL_isPulled 99 = .ok (.istore 7, 2) := by decide +kernel
theorem dL_isPulled_101 : decode cL_isPulled 101 = .ok (.iload 6, 2) := by decide +kernel
theorem dL_isPulled_103 : decode cL_isPulled 103 = .ok (.iload_n 2, 1) := by decide +kernel
theorem dL_isPulled_104 : decode cL_isPulled 104 = .ok (.if_icmp .le 7, 3) := by decide +kernel
theorem dL_isPulled_107 : decode cL_isPulled 107 = .ok (.iconst 2, 1) := by decide +kernel
theorem dL_isPulled_108 : decode cL_isPulled 108 = .ok (.goto 4, 3) := by decide +kernel
theorem dL_isPulled_111 : decode cL_isPulled 111 = .ok (.iconst 1, 1) := by decide +kernel
theorem dL_isPulled_112 : decode cL_isPulled 112 = .ok (.istore 8, 2) := by decide +kernel
theorem dL_isPulled_114 : decode cL_isPulled 114 = .ok (.aload_n 0, 1) := by decide +kernel
theorem dL_isPulled_115 : decode cL_isPulled 115 = .ok (.bipush 17, 2) := by decide +kernel
theorem dL_isPulled_117 : decode cL_isPulled 117 = .ok (.invokevirtual 8, 3) := by decide +kernel
theorem dL_isPulled_120 : decode cL_isPulled 120 = .ok (.iload 8, 2) := by decide +kernel
theorem dL_isPulled_122 : decode cL_isPulled 122 = .ok (.aload_n 0, 1) := by decide +kernel
theorem dL_isPulled_123 : decode cL_isPulled 123 = .ok (.bipush 18, 2) := by decide +kernel
theorem dL_isPulled_125 : decode cL_isPulled 125 = .ok (.invokevirtual 8, 3) := by decide +kernel
theorem dL_isPulled_128 : decode cL_isPulled 128 = .ok (.imul, 1) := by decide +kernel
theorem dL_isPulled_129 : decode cL_isPulled 129 = .ok (.iadd, 1) := by decide +kernel
theorem dL_isPulled_130 : decode cL_isPulled 130 = .ok (.istore 9, 2) := by decide +kernel
theorem dL_isPulled_132 : decode cL_isPulled 132 = .ok (.aload_n 0, 1) := by decide +kernel
theorem dL_isPulled_133 : decode cL_isPulled 133 = .ok (.iconst 0, 1) := by decide +kernel
theorem dL_isPulled_134 : decode cL_isPulled 134 = .ok (.invokevirtual 8, 3) := by decide +kernel
theorem dL_isPulled_137 : decode cL_isPulled 137 = .ok (.istore 10, 2) := by decide +kernel
theorem dL_isPulled_139 : decode cL_isPulled 139 = .ok (.aload_n 0, 1) := by decide +kernel
theorem dL_isPulled_140 : decode cL_isPulled 140 = .ok (.iload 9, 2) := by decide +kernel
theorem dL_isPulled_142 : decode cL_isPulled 142 = .ok (.invokevirtual 37, 3) := by decide +kernel
theorem dL_isPulled_145 : decode cL_isPulled 145 = .ok (.istore 11, 2) := by decide +kernel
theorem dL_isPulled_147 : decode cL_isPulled 147 = .ok (.aload_n 0, 1) := by decide +kernel
theorem dL_isPulled_148 : decode cL_isPulled 148 = .ok (.bipush 9, 2) := by decide +kernel
theorem dL_isPulled_150 : decode cL_isPulled 150 = .ok (.invokevirtual 8, 3) := by decide +kernel
theorem dL_isPulled_153 : decode cL_isPulled 153 = .ok (.istore 12, 2) := by decide +kernel
theorem dL_isPulled_155 : decode cL_isPulled 155 = .ok (.aload_n 0, 1) := by decide +kernel
theorem dL_isPulled_156 : decode cL_isPulled 156 = .ok (.bipush 10, 2) := by decide +kernel
theorem dL_isPulled_158 : decode cL_isPulled 158 = .ok (.invokevirtual 8, 3) := by decide +kernel
theorem dL_isPulled_161 : decode cL_isPulled 161 = .ok (.istore 13, 2) := by decide +kernel
theorem dL_isPulled_163 : decode cL_isPulled 163 = .ok (.aload_n 0, 1) := by decide +kernel
theorem dL_isPulled_164 : decode cL_isPulled 164 = .ok (.bipush 11, 2) := by decide +kernel
theorem dL_isPulled_166 : decode cL_isPulled 166 = .ok (.invokevirtual 8, 3) := by decide +kernel
theorem dL_isPulled_169 : decode cL_isPulled 169 = .ok (.istore 14, 2) := by decide +kernel
theorem dL_isPulled_171 : decode cL_isPulled 171 = .ok (.aload_n 0, 1) := by decide +kernel
theorem dL_isPulled_172 : decode cL_isPulled 172 = .ok (.iload_n 1, 1) := by decide +kernel
theorem dL_isPulled_173 : decode cL_isPulled 173 = .ok (.iconst 3, 1) := by decide +kernel
theorem dL_isPulled_174 : decode cL_isPulled 174 = .ok (.invokevirtual 14, 3) := by decide +kernel
theorem dL_isPulled_177 : decode cL_isPulled 177 = .ok (.istore 15, 2) := by decide +kernel
theorem dL_isPulled_179 : decode cL_isPulled 179 = .ok (.iload 6, 2) := by decide +kernel
theorem dL_isPulled_181 : decode cL_isPulled 181 = .ok (.ifCond .le 15, 3) := by decide +kernel
theorem dL_isPulled_184 : decode cL_isPulled 184 = .ok (.aload_n 0, 1) := by decide +kernel
theorem dL_isPulled_185 : decode cL_isPulled 185 = .ok (.aload 4, 2) := by decide +kernel
theorem dL_isPulled_187 : decode cL_isPulled 187 = .ok (.iconst 0, 1) := by decide +kernel
theorem dL_isPulled_188 : decode cL_isPulled 188 = .ok (.iaload, 1) := by decide +kernel
theorem dL_isPulled_189 : decode cL_isPulled 189 = .ok (.iconst 5, 1) := by decide +kernel
theorem dL_isPulled_190 : decode cL_isPulled 190 = .ok (.invokevirtual 21, 3) := by decide +kernel
theorem dL_isPulled_193 : decode cL_isPulled 193 = .ok (.goto 4, 3) := by decide +kernel
theorem dL_isPulled_196 : decode cL_isPulled 196 = .ok (.iconst 0, 1) := by decide +kernel
theorem dL_isPulled_197 : decode cL_isPulled 197 = .ok (.istore 16, 2) := by decide +kernel
theorem dL_isPulled_199 : decode cL_isPulled 199 = .ok (.aload_n 0, 1) := by decide +kernel
theorem dL_isPulled_200 : decode cL_isPulled 200 = .ok (.iload_n 1, 1) := by decide +kernel
theorem dL_isPulled_201 : decode cL_isPulled 201 = .ok (.iload_n 2, 1) := by decide +kernel
theorem dL_isPulled_202 : decode cL_isPulled 202 = .ok (.invokevirtual 34, 3) := by decide +kernel
theorem dL_isPulled_205 : decode cL_isPulled 205 = .ok (.istore 17, 2) := by decide +kernel
theorem dL_isPulled_207 : decode cL_isPulled 207 = .ok (.iload 7, 2) := by decide +kernel
theorem dL_isPulled_209 : decode cL_isPulled 209 = .ok (.ifCond .ne 47, 3) := by decide +kernel
theorem dL_isPulled_212 : decode cL_isPulled 212 = .ok (.iload 17, 2) := by decide +kernel
theorem dL_isPulled_214 : decode cL_isPulled 214 = .ok (.bipush (-5), 2) := by decide +kernel
theorem dL_isPulled_216 : decode cL_isPulled 216 = .ok (.if_icmp .ne 38, 3) := by decide +kernel
theorem dL_isPulled_219 : decode cL_isPulled 219 = .ok (.aload_n 0, 1) := by decide +kernel
theorem dL_isPulled_220 : decode cL_isPulled 220 = .ok (.iconst 3, 1) := by decide +kernel
theorem dL_isPulled_221 : decode cL_isPulled 221 = .ok (.invokevirtual 8, 3) := by decide +kernel
theorem dL_isPulled_224 : decode cL_isPulled 224 = .ok (.iload 5, 2) := by decide +kernel
theorem dL_isPulled_226 : decode cL_isPulled 226 = .ok (.if_icmp .ne 28, 3) := by decide +kernel
theorem dL_isPulled_229 : decode cL_isPulled 229 = .ok (.aload_n 0, 1) := by decide +kernel
theorem dL_isPulled_230 : decode cL_isPulled 230 = .ok (.iload_n 1, 1) := by decide +kernel
theorem dL_isPulled_231 : decode cL_isPulled 231 = .ok (.iconst 1, 1) := by decide +kernel
theorem dL_isPulled_232 : decode cL_isPulled 232 = .ok (.invokevirtual 14, 3) := by decide +kernel
theorem dL_isPulled_235 : decode cL_isPulled 235 = .ok (.iload 6, 2) := by decide +kernel
theorem dL_isPulled_237 : decode cL_isPulled 237 = .ok (.if_icmp .ne 17, 3) := by decide +kernel
theorem dL_isPulled_240 : decode cL_isPulled 240 = .ok (.aload_n 0, 1) := by decide +kernel
theorem dL_isPulled_241 : decode cL_isPulled 241 = .ok (.iconst 0, 1) := by decide +kernel
theorem dL_isPulled_242 : decode cL_isPulled 242 = .ok (.invokevirtual 8, 3) := by decide +kernel
theorem dL_isPulled_245 : decode cL_isPulled 245 = .ok (.iload 10, 2) := by decide +kernel
theorem dL_isPulled_247 : decode cL_isPulled 247 = .ok (.if_icmp .ne 7, 3) := by decide +kernel
theorem dL_isPulled_250 : decode cL_isPulled 250 = .ok (.iconst 1, 1) := by decide +kernel
theorem dL_isPulled_251 : decode cL_isPulled 251 = .ok (.goto 4, 3) := by decide +kernel
theorem dL_isPulled_254 : decode cL_isPulled 254 = .ok (.iconst 0, 1) := by decide +kernel
theorem dL_isPulled_255 : decode cL_isPulled 255 = .ok (.ireturn, 1) := by decide +kernel
theorem dL_isPulled_256 : decode cL_isPulled 256 = .ok (.iload 17, 2) := by decide +kernel
theorem dL_isPulled_258 : decode cL_isPulled 258 = .ok (.iload 5, 2) := by decide +kernel
theorem dL_isPulled_260 : decode cL_isPulled 260 = .ok (.iload_n 2, 1) := by decide +kernel
theorem dL_isPulled_261 : decode cL_isPulled 261 = .ok (.iadd, 1) := by decide +kernel
theorem dL_isPulled_262 : decode cL_isPulled 262 = .ok (.if_icmp .ne 45, 3) := by decide +kernel
theorem dL_isPulled_265 : decode cL_isPulled 265 = .ok (.aload_n 0, 1) := by decide +kernel
theorem dL_isPulled_266 : decode cL_isPulled 266 = .ok (.iload_n 1, 1) := by decide +kernel
theorem dL_isPulled_267 : decode cL_isPulled 267 = .ok (.iconst 1, 1) := by decide +kernel
theorem dL_isPulled_268 : decode cL_isPulled 268 = .ok (.invokevirtual 14, 3) := by decide +kernel
theorem dL_isPulled_271 : decode cL_isPulled 271 = .ok (.iload 6, 2) := by decide +kernel
theorem dL_isPulled_273 : decode cL_isPulled 273 = .ok (.iload_n 2, 1) := by decide +kernel
theorem dL_isPulled_274 : decode cL_isPulled 274 = .ok (.isub, 1) := by decide +kernel
theorem dL_isPulled_275 : decode cL_isPulled 275 = .ok (.if_icmp .ne 32, 3) := by decide +kernel
theorem dL_isPulled_278 : decode cL_isPulled 278 = .ok (.aload_n 0, 1) := by decide +kernel
theorem dL_isPulled_279 : decode cL_isPulled 279 = .ok (.iload_n 1, 1) := by decide +kernel
theorem dL_isPulled_280 : decode cL_isPulled 280 = .ok (.iconst 3, 1) := by decide +kernel
theorem dL_isPulled_281 : decode cL_isPulled 281 = .ok (.invokevirtual 14, 3) := by decide +kernel
theorem dL_isPulled_284 : decode cL_isPulled 284 = .ok (.iload 15, 2) := by decide +kernel
theorem dL_isPulled_286 : decode cL_isPulled 286 = .ok (.iload_n 2, 1) := by decide +kernel
theorem dL_isPulled_287 : decode cL_isPulled 287 = .ok (.iadd, 1) := by decide +kernel
theorem dL_isPulled_288 : decode cL_isPulled 288 = .ok (.if_icmp .ne 19, 3) := by decide +kernel
theorem dL_isPulled_291 : decode cL_isPulled 291 = .ok (.aload_n 0, 1) := by decide +kernel
theorem dL_isPulled_292 : decode cL_isPulled 292 = .ok (.aload 4, 2) := by decide +kernel
theorem dL_isPulled_294 : decode cL_isPulled 294 = .ok (.iconst 0, 1) := by decide +kernel
theorem dL_isPulled_295 : decode cL_isPulled 295 = .ok (.iaload, 1) := by decide +kernel
theorem dL_isPulled_296 : decode cL_isPulled 296 = .ok (.iconst 5, 1) := by decide +kernel
theorem dL_isPulled_297 : decode cL_isPulled 297 = .ok (.invokevirtual 21, 3) := by decide +kernel
theorem dL_isPulled_300 : decode cL_isPulled 300 = .ok (.iload 16, 2) := by decide +kernel
theorem dL_isPulled_302 : decode cL_isPulled 302 = .ok (.iconst 1, 1) := by decide +kernel
theorem dL_isPulled_303 : decode cL_isPulled 303 = .ok (.iadd, 1) := by decide +kernel
theorem dL_isPulled_304 : decode cL_isPulled 304 = .ok (.if_icmp .eq 5, 3) := by decide +kernel
theorem dL_isPulled_307 : decode cL_isPulled 307 = .ok (.iconst 0, 1) := by decide +kernel
theorem dL_isPulled_308 : decode cL_isPulled 308 = .ok (.ireturn, 1) := by decide +kernel
theorem dL_isPulled_309 : decode cL_isPulled 309 = .ok (.iconst 0, 1) := by decide +kernel
theorem dL_isPulled_310 : decode cL_isPulled 310 = .ok (.istore 18, 2) := by decide +kernel
theorem dL_isPulled_312 : decode cL_isPulled 312 = .ok (.iload 18, 2) := by decide +kernel
theorem dL_isPulled_314 : decode cL_isPulled 314 = .ok (.iload 5, 2) := by decide +kernel
theorem dL_isPulled_316 : decode cL_isPulled 316 = .ok (.iload_n 2, 1) := by decide +kernel
theorem dL_isPulled_317 : decode cL_isPulled 317 = .ok (.iadd, 1) := by decide +kernel
theorem dL_isPulled_318 : decode cL_isPulled 318 = .ok (.if_icmp .ge 44, 3) := by decide +kernel
theorem dL_isPulled_321 : decode cL_isPulled 321 = .ok (.aload_n 0, 1) := by decide +kernel
theorem dL_isPulled_322 : decode cL_isPulled 322 = .ok (.bipush (-6), 2) := by decide +kernel
theorem dL_isPulled_324 : decode cL_isPulled 324 = .ok (.iload 18, 2) := by decide +kernel
theorem dL_isPulled_326 : decode cL_isPulled 326 = .ok (.invokevirtual 18, 3) := by decide +kernel
theorem dL_isPulled_329 : decode cL_isPulled 329 = .ok (.iload 18, 2) := by decide +kernel
theorem dL_isPulled_331 : decode cL_isPulled 331 = .ok (.iload 5, 2) := by decide +kernel
theorem dL_isPulled_333 : decode cL_isPulled 333 = .ok (.if_icmp .ge 10, 3) := by decide +kernel
theorem dL_isPulled_336 : decode cL_isPulled 336 = .ok (.aload_n 3, 1) := by decide +kernel
theorem dL_isPulled_337 : decode cL_isPulled 337 = .ok (.iload 18, 2) := by decide +kernel
theorem dL_isPulled_339 : decode cL_isPulled 339 = .ok (.iaload, 1) := by decide +kernel
theorem dL_isPulled_340 : decode cL_isPulled 340 = .ok (.goto 11, 3) := by decide +kernel
theorem dL_isPulled_343 : decode cL_isPulled 343 = .ok (.aload 4, 2) := by decide +kernel
theorem dL_isPulled_345 : decode cL_isPulled 345 = .ok (.iload 18, 2) := by decide +kernel
theorem dL_isPulled_347 : decode cL_isPulled 347 = .ok (.iload 5, 2) := by decide +kernel
theorem dL_isPulled_349 : decode cL_isPulled 349 = .ok (.isub, 1) := by decide +kernel
theorem dL_isPulled_350 : decode cL_isPulled 350 = .ok (.iaload, 1) := by decide +kernel
theorem dL_isPulled_351 : decode cL_isPulled 351 = .ok (.if_icmp .eq 5, 3) := by decide +kernel
theorem dL_isPulled_354 : decode cL_isPulled 354 = .ok (.iconst 0, 1) := by decide +kernel
theorem dL_isPulled_355 : decode cL_isPulled 355 = .ok (.ireturn, 1) := by decide +kernel
theorem dL_isPulled_356 : decode cL_isPulled 356 = .ok (.iinc 18 1, 3) := by decide +kernel
theorem dL_isPulled_359 : decode cL_isPulled 359 = .ok (.goto (-47), 3) := by decide +kernel
theorem dL_isPulled_362 : decode cL_isPulled 362 = .ok (.iload_n 2, 1) := by decide +kernel
theorem dL_isPulled_363 : decode cL_isPulled 363 = .ok (.istore 18, 2) := by decide +kernel
theorem dL_isPulled_365 : decode cL_isPulled 365 = .ok (.iload 18, 2) := by decide +kernel
theorem dL_isPulled_367 : decode cL_isPulled 367 = .ok (.iload 6, 2) := by decide +kernel
theorem dL_isPulled_369 : decode cL_isPulled 369 = .ok (.if_icmp .ge 28, 3) := by decide +kernel
theorem dL_isPulled_372 : decode cL_isPulled 372 = .ok (.aload_n 0, 1) := by decide +kernel
theorem dL_isPulled_373 : decode cL_isPulled 373 = .ok (.iload_n 1, 1) := by decide +kernel
theorem dL_isPulled_374 : decode cL_isPulled 374 = .ok (.iload 18, 2) := by decide +kernel
theorem dL_isPulled_376 : decode cL_isPulled 376 = .ok (.iload_n 2, 1) := by decide +kernel
theorem dL_isPulled_377 : decode cL_isPulled 377 = .ok (.isub, 1) := by decide +kernel
theorem dL_isPulled_378 : decode cL_isPulled 378 = .ok (.invokevirtual 18, 3) := by decide +kernel
theorem dL_isPulled_381 : decode cL_isPulled 381 = .ok (.aload 4, 2) := by decide +kernel
theorem dL_isPulled_383 : decode cL_isPulled 383 = .ok (.iload 18, 2) := by decide +kernel
theorem dL_isPulled_385 : decode cL_isPulled 385 = .ok (.iaload, 1) := by decide +kernel
theorem dL_isPulled_386 : decode cL_isPulled 386 = .ok (.if_icmp .eq 5, 3) := by decide +kernel
theorem dL_isPulled_389 : decode cL_isPulled 389 = .ok (.iconst 0, 1) := by decide +kernel
theorem dL_isPulled_390 : decode cL_isPulled 390 = .ok (.ireturn, 1) := by decide +kernel
theorem dL_isPulled_391 : decode cL_isPulled 391 = .ok (.iinc 18 1, 3) := by decide +kernel
theorem dL_isPulled_394 : decode cL_isPulled 394 = .ok (.goto (-29), 3) := by decide +kernel
theorem dL_isPulled_397 : decode cL_isPulled 397 = .ok (.aload_n 0, 1) := by decide +kernel
theorem dL_isPulled_398 : decode cL_isPulled 398 = .ok (.iload 10, 2) := by decide +kernel
theorem dL_isPulled_400 : decode cL_isPulled 400 = .ok (.iload 11, 2) := by decide +kernel
theorem dL_isPulled_402 : decode cL_isPulled 402 = .ok (.iload 9, 2) := by decide +kernel
theorem dL_isPulled_404 : decode cL_isPulled 404 = .ok (.iload 8, 2) := by decide +kernel
theorem dL_isPulled_406 : decode cL_isPulled 406 = .ok (.iload 12, 2) := by decide +kernel
theorem dL_isPulled_408 : decode cL_isPulled 408 = .ok (.iload 13, 2) := by decide +kernel
theorem dL_isPulled_410 : decode cL_isPulled 410 = .ok (.iload 14, 2) := by decide +kernel
theorem dL_isPulled_412 : decode cL_isPulled 412 = .ok (.invokestatic 40, 3) := by decide +kernel
theorem dL_isPulled_415 : decode cL_isPulled 415 = .ok (.ireturn, 1) := by decide +kernel
theorem dL_isPushed_0 : decode cL_isPushed 0 = .ok (.iload_n 1, 1) := by decide +kernel
theorem dL_isPushed_1 : decode cL_isPushed 1 = .ok (.aload_n 0, 1) := by decide +kernel
theorem dL_isPushed_2 : decode cL_isPushed 2 = .ok (.iconst 1, 1) := by decide +kernel
theorem dL_isPushed_3 : decode cL_isPushed 3 = .ok (.invokevirtual 8, 3) := by decide +kernel
theorem dL_isPushed_6 : decode cL_isPushed 6 = .ok (.if_icmp .lt 19, 3) := by decide +kernel
theorem dL_isPushed_9 : decode cL_isPushed 9 = .ok (.aload_n 0, 1) := by decide +kernel
theorem dL_isPushed_10 : decode cL_isPushed 10 = .ok (.iload_n 1, 1) := by decide +kernel
theorem dL_isPushed_11 : decode cL_isPushed 11 = .ok (.iload_n 2, 1) := by decide +kernel
theorem dL_isPushed_12 : decode cL_isPushed 12 = .ok (.invokevirtual 44, 3) := by decide +kernel
theorem dL_isPushed_15 : decode cL_isPushed 15 = .ok (.iconst (-1), 1) := by decide +kernel
theorem dL_isPushed_16 : decode cL_isPushed 16 = .ok (.if_icmp .ne 7, 3) := by decide +kernel
theorem dL_isPushed_19 : decode cL_isPushed 19 = .ok (.iconst 1, 1) := by decide +kernel
theorem dL_isPushed_20 : decode cL_isPushed 20 = .ok (.goto 4, 3) := by decide +kernel
theorem dL_isPushed_23 : decode cL_isPushed 23 = .ok (.iconst 0, 1) := by decide +kernel
theorem dL_isPushed_24 : decode cL_isPushed 24 = .ok (.ireturn, 1) := by decide +kernel
theorem dL_isPushed_25 : decode cL_isPushed 25 = .ok (.bipush 32, 2) := by decide +kernel
theorem dL_isPushed_27 : decode cL_isPushed 27 = .ok (.newarray .int, 2) := by decide +kernel
theorem dL_isPushed_29 : decode cL_isPushed 29 = .ok (.astore_n 3, 1) := by decide +kernel
theorem dL_isPushed_30 : decode cL_isPushed 30 = .ok (.bipush 32, 2) := by decide +kernel
theorem dL_isPushed_32 : decode cL_isPushed 32 = .ok (.newarray .int, 2) := by decide +kernel
theorem dL_isPushed_34 : decode cL_isPushed 34 = .ok (.astore 4, 2) := by decide +kernel
theorem dL_isPushed_36 : decode cL_isPushed 36 = .ok (.aload_n 0, 1) := by decide +kernel
theorem dL_isPushed_37 : decode cL_isPushed 37 = .ok (.bipush (-6), 2) := by decide +kernel
theorem dL_isPushed_39 : decode cL_isPushed 39 = .ok (.aload_n 3, 1) := by decide +kernel
theorem dL_isPushed_40 : decode cL_isPushed 40 = .ok (.invokestatic 24, 3) := by decide +kernel
theorem dL_isPushed_43 : decode cL_isPushed 43 = .ok (.istore 5, 2) := by decide +kernel
theorem dL_isPushed_45 : decode cL_isPushed 45 = .ok (.aload_n 0, 1) := by decide +kernel
theorem dL_isPushed_46 : decode cL_isPushed 46 = .ok (.iload_n 1, 1) := by decide +kernel
theorem dL_isPushed_47 : decode cL_isPushed 47 = .ok (.aload 4, 2) := by decide +kernel
theorem dL_isPushed_49 : decode cL_isPushed 49 = .ok (.invokestatic 24, 3) := by decide +kernel
theorem dL_isPushed_52 : decode cL_isPushed 52 = .ok (.istore 6, 2) := by decide +kernel
theorem dL_isPushed_54 : decode cL_isPushed 54 = .ok (.iload_n 2, 1) := by decide +kernel
theorem dL_isPushed_55 : decode cL_isPushed 55 = .ok (.iload 5, 2) := by decide +kernel
theorem dL_isPushed_57 : decode cL_isPushed 57 = .ok (.if_icmp .gt 44, 3) := by decide +kernel
theorem dL_isPushed_60 : decode cL_isPushed 60 = .ok (.aload_n 0, 1) := by decide +kernel
theorem dL_isPushed_61 : decode cL_isPushed 61 = .ok (.iload_n 1, 1) := by decide +kernel
theorem dL_isPushed_62 : decode cL_isPushed 62 = .ok (.iconst 2, 1) := by decide +kernel
theorem dL_isPushed_63 : decode cL_isPushed 63 = .ok (.invokevirtual 14, 3) := by decide +kernel
theorem dL_isPushed_66 : decode cL_isPushed 66 = .ok (.aload_n 0, 1) := by decide +kernel
theorem dL_isPushed_67 : decode cL_isPushed 67 = .ok (.aload_n 3, 1) := by decide +kernel
theorem dL_isPushed_68 : decode cL_isPushed 68 = .ok (.iload_n 2, 1) := by decide +kernel
theorem dL_isPushed_69 : decode cL_isPushed 69 = .ok (.iload 5, 2) := by decide +kernel
theorem dL_isPushed_71 : decode cL_isPushed 71 = .ok (.if_icmp .ge 10, 3) := by decide +kernel
theorem dL_isPushed_74 : decode cL_isPushed 74 = .ok (.iload 5, 2) := by decide +kernel
theorem dL_isPushed_76 : decode cL_isPushed 76 = .ok (.iload_n 2, 1) := by decide +kernel
theorem dL_isPushed_77 : decode cL_isPushed 77 = .ok (.isub, 1) := by decide +kernel
theorem dL_isPushed_78 : decode cL_isPushed 78 = .ok (.goto 4, 3) := by decide +kernel
theorem dL_isPushed_81 : decode cL_isPushed 81 = .ok (.iconst 0, 1) := by decide +kernel
theorem dL_isPushed_82 : decode cL_isPushed 82 = .ok (.iload 5, 2) := by decide +kernel
theorem dL_isPushed_84 : decode cL_isPushed 84 = .ok (.invokestatic 30, 3) := by decide +kernel
theorem dL_isPushed_87 : decode cL_isPushed 87 = .ok (.iadd, 1) := by decide +kernel
theorem dL_isPushed_88 : decode cL_isPushed 88 = .ok (.aload_n 0, 1) := by decide +kernel
theorem dL_isPushed_89 : decode cL_isPushed 89 = .ok (.iload_n 1, 1) := by decide +kernel
theorem dL_isPushed_90 : decode cL_isPushed 90 = .ok (.iconst 0, 1) := by decide +kernel
theorem dL_isPushed_91 : decode cL_isPushed 91 = .ok (.invokevirtual 14, 3) := by decide +kernel
theorem dL_isPushed_94 : decode cL_isPushed 94 = .ok (.if_icmp .gt 7, 3) := by decide +kernel
theorem dL_isPushed_97 : decode cL_isPushed 97 = .ok (.iconst 1, 1) := by decide +kernel
theorem dL_isPushed_98 : decode cL_isPushed 98 = .ok (.goto 4, 3) := by decide +kernel
theorem dL_isPushed_101 : decode cL_isPushed 101 = .ok (.iconst 0, 1) := by decide +kernel
theorem dL_isPushed_102 : decode cL_isPushed 102 = .ok (.istore 7, 2) := by decide +kernel
theorem dL_isPushed_104 : decode cL_isPushed 104 = .ok (.aload_n 0, 1) := by decide +kernel
theorem dL_isPushed_105 : decode cL_isPushed 105 = .ok (.invokevirtual 47, 3) := by decide +kernel
theorem dL_isPushed_108 : decode cL_isPushed 108 = .ok (.iload_n 1, 1) := by decide +kernel
theorem dL_isPushed_109 : decode cL_isPushed 109 = .ok (.ishr, 1) := by decide +kernel
theorem dL_isPushed_110 : decode cL_isPushed 110 = .ok (.iconst 1, 1) := by decide +kernel
theorem dL_isPushed_111 : decode cL_isPushed 111 = .ok (.iand, 1) := by decide +kernel
theorem dL_isPushed_112 : decode cL_isPushed 112 = .ok (.iconst 1, 1) := by decide +kernel
theorem dL_isPushed_113 : decode cL_isPushed 113 = .ok (.if_icmp .ne 7, 3) := by decide +kernel
theorem dL_isPushed_116 : decode cL_isPushed 116 = .ok (.iconst 1, 1) := by decide +kernel
theorem dL_isPushed_117 : decode cL_isPushed 117 = .ok (.goto 4, 3) := by decide +kernel
theorem dL_isPushed_120 : decode cL_isPushed 120 = .ok (.iconst 0, 1) := by decide +kernel
theorem dL_isPushed_121 : decode cL_isPushed 121 = .ok (.istore 8, 2) := by decide +kernel
theorem dL_isPushed_123 : decode cL_isPushed 123 = .ok (.iload_n 2, 1) := by decide +kernel
theorem dL_isPushed_124 : decode cL_isPushed 124 = .ok (.iload 5, 2) := by decide +kernel
theorem dL_isPushed_126 : decode cL_isPushed 126 = .ok (.if_icmp .ne 12, 3) := by decide +kernel
theorem dL_isPushed_129 : decode cL_isPushed 129 = .ok (.iload 7, 2) := by decide +kernel
theorem dL_isPushed_131 : decode cL_isPushed 131 = .ok (.iload 8, 2) := by decide +kernel
theorem dL_isPushed_133 : decode cL_isPushed 133 = .ok (.if_icmp .eq 5, 3) := by decide +kernel
theorem dL_isPushed_136 : decode cL_isPushed 136 = .ok (.iconst 0, 1) := by decide +kernel
theorem dL_isPushed_137 : decode cL_isPushed 137 = .ok (.ireturn, 1) := by decide +kernel
theorem dL_isPushed_138 : decode cL_isPushed 138 = .ok (.iload 6, 2) := by decide +kernel
theorem dL_isPushed_140 : decode cL_isPushed 140 = .ok (.ifCond .le 7, 3) := by decide +kernel
theorem dL_isPushed_143 : decode cL_isPushed 143 = .ok (.iconst 2, 1) := by decide +kernel
theorem dL_isPushed_144 : decode cL_isPushed 144 = .ok (.goto 4, 3) := by decide +kernel
theorem dL_isPushed_147 : decode cL_isPushed 147 = .ok (.iconst 1, 1) := by decide +kernel
theorem dL_isPushed_148 : decode cL_isPushed 148 = .ok (.istore 9, 2) := by decide +kernel
theorem dL_isPushed_150 : decode cL_isPushed 150 = .ok (.aload_n 0, 1) := by decide +kernel
theorem dL_isPushed_151 : decode cL_isPushed 151 = .ok (.bipush 17, 2) := by decide +kernel
theorem dL_isPushed_153 : decode cL_isPushed 153 = .ok (.invokevirtual 8, 3) := by decide +kernel
theorem dL_isPushed_156 : decode cL_isPushed 156 = .ok (.iload 9, 2) := by decide +kernel
theorem dL_isPushed_158 : decode cL_isPushed 158 = .ok (.aload_n 0, 1) := by decide +kernel
theorem dL_isPushed_159 : decode cL_isPushed 159 = .ok (.bipush 18, 2) := by decide +kernel
theorem dL_isPushed_161 : decode cL_isPushed 161 = .ok (.invokevirtual 8, 3) := by decide +kernel
theorem dL_isPushed_164 : decode cL_isPushed 164 = .ok (.imul, 1) := by decide +kernel
theorem dL_isPushed_165 : decode cL_isPushed 165 = .ok (.iadd, 1) := by decide +kernel
theorem dL_isPushed_166 : decode cL_isPushed 166 = .ok (.istore 10, 2) := by decide +kernel
theorem dL_isPushed_168 : decode cL_isPushed 168 = .ok (.aload_n 0, 1) := by decide +kernel
theorem dL_isPushed_169 : decode cL_isPushed 169 = .ok (.iconst 0, 1) := by decide +kernel
theorem dL_isPushed_170 : decode cL_isPushed 170 = .ok (.invokevirtual 8, 3) := by decide +kernel
theorem dL_isPushed_173 : decode cL_isPushed 173 = .ok (.istore 11, 2) := by decide +kernel
theorem dL_isPushed_175 : decode cL_isPushed 175 = .ok (.aload_n 0, 1) := by decide +kernel
theorem dL_isPushed_176 : decode cL_isPushed 176 = .ok (.iload 10, 2) := by decide +kernel
theorem dL_isPushed_178 : decode cL_isPushed 178 = .ok (.invokevirtual 37, 3) := by decide +kernel
theorem dL_isPushed_181 : decode cL_isPushed 181 = .ok (.istore 12, 2) := by decide +kernel
theorem dL_isPushed_183 : decode cL_isPushed 183 = .ok (.aload_n 0, 1) := by decide +kernel
theorem dL_isPushed_184 : decode cL_isPushed 184 = .ok (.bipush 9, 2) := by decide +kernel
theorem dL_isPushed_186 : decode cL_isPushed 186 = .ok (.invokevirtual 8, 3) := by decide +kernel
theorem dL_isPushed_189 : decode cL_isPushed 189 = .ok (.istore 13, 2) := by decide +kernel
theorem dL_isPushed_191 : decode cL_isPushed 191 = .ok (.aload_n 0, 1) := by decide +kernel
theorem dL_isPushed_192 : decode cL_isPushed 192 = .ok (.bipush 10, 2) := by decide +kernel
theorem dL_isPushed_194 : decode cL_isPushed 194 = .ok (.invokevirtual 8, 3) := by decide +kernel
theorem dL_isPushed_197 : decode cL_isPushed 197 = .ok (.istore 14, 2) := by decide +kernel
theorem dL_isPushed_199 : decode cL_isPushed 199 = .ok (.aload_n 0, 1) := by decide +kernel
theorem dL_isPushed_200 : decode cL_isPushed 200 = .ok (.bipush 11, 2) := by decide +kernel
theorem dL_isPushed_202 : decode cL_isPushed 202 = .ok (.invokevirtual 8, 3) := by decide +kernel
theorem dL_isPushed_205 : decode cL_isPushed 205 = .ok (.istore 15, 2) := by decide +kernel
theorem dL_isPushed_207 : decode cL_isPushed 207 = .ok (.aload_n 0, 1) := by decide +kernel
theorem dL_isPushed_208 : decode cL_isPushed 208 = .ok (.iload_n 1, 1) := by decide +kernel
theorem dL_isPushed_209 : decode cL_isPushed 209 = .ok (.iconst 4, 1) := by decide +kernel
theorem dL_isPushed_210 : decode cL_isPushed 210 = .ok (.invokevirtual 14, 3) := by decide +kernel
theorem dL_isPushed_213 : decode cL_isPushed 213 = .ok (.istore 16, 2) := by decide +kernel
theorem dL_isPushed_215 : decode cL_isPushed 215 = .ok (.aload_n 0, 1) := by decide +kernel
theorem dL_isPushed_216 : decode cL_isPushed 216 = .ok (.iload_n 1, 1) := by decide +kernel
theorem dL_isPushed_217 : decode cL_isPushed 217 = .ok (.iload_n 2, 1) := by decide +kernel
theorem dL_isPushed_218 : decode cL_isPushed 218 = .ok (.invokevirtual 44, 3) := by decide +kernel
theorem dL_isPushed_221 : decode cL_isPushed 221 = .ok (.istore 17, 2) := by decide +kernel
theorem dL_isPushed_223 : decode cL_isPushed 223 = .ok (.iload 7, 2) := by decide +kernel
theorem dL_isPushed_225 : decode cL_isPushed 225 = .ok (.ifCond .ne 47, 3) := by decide +kernel
theorem dL_isPushed_228 : decode cL_isPushed 228 = .ok (.iload 17, 2) := by decide +kernel
theorem dL_isPushed_230 : decode cL_isPushed 230 = .ok (.bipush (-5), 2) := by decide +kernel
theorem dL_isPushed_232 : decode cL_isPushed 232 = .ok (.if_icmp .ne 38, 3) := by decide +kernel
theorem dL_isPushed_235 : decode cL_isPushed 235 = .ok (.aload_n 0, 1) := by decide +kernel
theorem dL_isPushed_236 : decode cL_isPushed 236 = .ok (.iconst 3, 1) := by decide +kernel
theorem dL_isPushed_237 : decode cL_isPushed 237 = .ok (.invokevirtual 8, 3) := by decide +kernel
theorem dL_isPushed_240 : decode cL_isPushed 240 = .ok (.iload 5, 2) := by decide +kernel
theorem dL_isPushed_242 : decode cL_isPushed 242 = .ok (.if_icmp .ne 28, 3) := by decide +kernel
theorem dL_isPushed_245 : decode cL_isPushed 245 = .ok (.aload_n 0, 1) := by decide +kernel
theorem dL_isPushed_246 : decode cL_isPushed 246 = .ok (.iload_n 1, 1) := by decide +kernel
theorem dL_isPushed_247 : decode cL_isPushed 247 = .ok (.iconst 1, 1) := by decide +kernel
theorem dL_isPushed_248 : decode cL_isPushed 248 = .ok (.invokevirtual 14, 3) := by decide +kernel
theorem dL_isPushed_251 : decode cL_isPushed 251 = .ok (.iload 6, 2) := by decide +kernel
theorem dL_isPushed_253 : decode cL_isPushed 253 = .ok (.if_icmp .ne 17, 3) := by decide +kernel
theorem dL_isPushed_256 : decode cL_isPushed 256 = .ok (.aload_n 0, 1) := by decide +kernel
theorem dL_isPushed_257 : decode cL_isPushed 257 = .ok (.iconst 0, 1) := by decide +kernel
theorem dL_isPushed_258 : decode cL_isPushed 258 = .ok (.invokevirtual 8, 3) := by decide +kernel
theorem dL_isPushed_261 : decode cL_isPushed 261 = .ok (.iload 11, 2) := by decide +kernel
theorem dL_isPushed_263 : decode cL_isPushed 263 = .ok (.if_icmp .ne 7, 3) := by decide +kernel
theorem dL_isPushed_266 : decode cL_isPushed 266 = .ok (.iconst 1, 1) := by decide +kernel
theorem dL_isPushed_267 : decode cL_isPushed 267 = .ok (.goto 4, 3) := by decide +kernel
theorem dL_isPushed_270 : decode cL_isPushed 270 = .ok (.iconst 0, 1) := by decide +kernel
theorem dL_isPushed_271 : decode cL_isPushed 271 = .ok (.ireturn, 1) := by decide +kernel
theorem dL_isPushed_272 : decode cL_isPushed 272 = .ok (.iload 17, 2) := by decide +kernel
theorem dL_isPushed_274 : decode cL_isPushed 274 = .ok (.iload 5, 2) := by decide +kernel
theorem dL_isPushed_276 : decode cL_isPushed 276 = .ok (.iload_n 2, 1) := by decide +kernel
theorem dL_isPushed_277 : decode cL_isPushed 277 = .ok (.isub, 1) := by decide +kernel
theorem dL_isPushed_278 : decode cL_isPushed 278 = .ok (.if_icmp .ne 29, 3) := by decide +kernel
theorem dL_isPushed_281 : decode cL_isPushed 281 = .ok (.aload_n 0, 1) := by decide +kernel
theorem dL_isPushed_282 : decode cL_isPushed 282 = .ok (.iload_n 1, 1) := by decide +kernel
theorem dL_isPushed_283 : decode cL_isPushed 283 = .ok (.iconst 1, 1) := by decide +kernel
theorem dL_isPushed_284 : decode cL_isPushed 284 = .ok (.invokevirtual 14, 3) := by decide +kernel
theorem dL_isPushed_287 : decode cL_isPushed 287 = .ok (.iload 6, 2) := by decide +kernel
theorem dL_isPushed_289 : decode cL_isPushed 289 = .ok (.iload_n 2, 1) := by decide +kernel
theorem dL_isPushed_290 : decode cL_isPushed 290 = .ok (.iadd, 1) := by decide +kernel
theorem dL_isPushed_291 : decode cL_isPushed 291 = .ok (.if_icmp .ne 16, 3) := by decide +kernel
theorem dL_isPushed_294 : decode cL_isPushed 294 = .ok (.aload_n 0, 1) := by decide +kernel
theorem dL_isPushed_295 : decode cL_isPushed 295 = .ok (.iload_n 1, 1) := by decide +kernel
theorem dL_isPushed_296 : decode cL_isPushed 296 = .ok (.iconst 4, 1) := by decide +kernel
theorem dL_isPushed_297 : decode cL_isPushed 297 = .ok (.invokevirtual 14, 3) := by decide +kernel
theorem dL_isPushed_300 : decode cL_isPushed 300 = .ok (.iload 16, 2) := by decide +kernel
theorem dL_isPushed_302 : decode cL_isPushed 302 = .ok (.iload_n 2, 1) := by decide +kernel
theorem dL_isPushed_303 : decode cL_isPushed 303 = .ok (.iadd, 1) := by decide +kernel
theorem dL_isPushed_304 : decode cL_isPushed 304 = .ok (.if_icmp .eq 5, 3) := by decide +kernel
theorem dL_isPushed_307 : decode cL_isPushed 307 = .ok (.iconst 0, 1) := by decide +kernel
theorem dL_isPushed_308 : decode cL_isPushed 308 = .ok (.ireturn, 1) := by decide +kernel
theorem dL_isPushed_309 : decode cL_isPushed 309 = .ok (.iconst 0, 1) := by decide +kernel
theorem dL_isPushed_310 : decode cL_isPushed 310 = .ok (.istore 18, 2) := by decide +kernel
theorem dL_isPushed_312 : decode cL_isPushed 312 = .ok (.iload 18, 2) := by decide +kernel
theorem dL_isPushed_314 : decode cL_isPushed 314 = .ok (.iload 6, 2) := by decide +kernel
theorem dL_isPushed_316 : decode cL_isPushed 316 = .ok (.iload_n 2, 1) := by decide +kernel
theorem dL_isPushed_317 : decode cL_isPushed 317 = .ok (.iadd, 1) := by decide +kernel
theorem dL_isPushed_318 : decode cL_isPushed 318 = .ok (.if_icmp .ge 46, 3) := by decide +kernel
theorem dL_isPushed_321 : decode cL_isPushed 321 = .ok (.aload_n 0, 1) := by decide +kernel
theorem dL_isPushed_322 : decode cL_isPushed 322 = .ok (.iload_n 1, 1) := by decide +kernel
theorem dL_isPushed_323 : decode cL_isPushed 323 = .ok (.iload 18, 2) := by decide +kernel
theorem dL_isPushed_325 : decode cL_isPushed 325 = .ok (.invokevirtual 18, 3) := by decide +kernel
theorem dL_isPushed_328 : decode cL_isPushed 328 = .ok (.iload 18, 2) := by decide +kernel
theorem dL_isPushed_330 : decode cL_isPushed 330 = .ok (.iload_n 2, 1) := by decide +kernel
theorem dL_isPushed_331 : decode cL_isPushed 331 = .ok (.if_icmp .ge 15, 3) := by decide +kernel
theorem dL_isPushed_334 : decode cL_isPushed 334 = .ok (.aload_n 3, 1) := by decide +kernel
theorem dL_isPushed_335 : decode cL_isPushed 335 = .ok (.iload 5, 2) := by decide +kernel
theorem dL_isPushed_337 : decode cL_isPushed 337 = .ok (.iload_n 2, 1) := by decide +kernel
theorem dL_isPushed_338 : decode cL_isPushed 338 = .ok (.isub, 1) := by decide +kernel
theorem dL_isPushed_339 : decode cL_isPushed 339 = .ok (.iload 18, 2) := by decide +kernel
theorem dL_isPushed_341 : decode cL_isPushed 341 = .ok (.iadd, 1) := by decide +kernel
theorem dL_isPushed_342 : decode cL_isPushed 342 = .ok (.iaload, 1) := by decide +kernel
theorem dL_isPushed_343 : decode cL_isPushed 343 = .ok (.goto 10, 3) := by decide +kernel
theorem dL_isPushed_346 : decode cL_isPushed 346 = .ok (.aload 4, 2) := by decide +kernel
theorem dL_isPushed_348 : decode cL_isPushed 348 = .ok (.iload 18, 2) := by decide +kernel
theorem dL_isPushed_350 : decode cL_isPushed 350 = .ok (.iload_n 2, 1) := by decide +kernel
theorem dL_isPushed_351 : decode cL_isPushed 351 = .ok (.isub, 1) := by decide +kernel
theorem dL_isPushed_352 : decode cL_isPushed 352 = .ok (.iaload, 1) := by decide +kernel
theorem dL_isPushed_353 : decode cL_isPushed 353 = .ok (.if_icmp .eq 5, 3) := by decide +kernel
theorem dL_isPushed_356 : decode cL_isPushed 356 = .ok (.iconst 0, 1) := by decide +kernel
theorem dL_isPushed_357 : decode cL_isPushed 357 = .ok (.ireturn, 1) := by decide +kernel
theorem dL_isPushed_358 : decode cL_isPushed 358 = .ok (.iinc 18 1, 3) := by decide +kernel
theorem dL_isPushed_361 : decode cL_isPushed 361 = .ok (.goto (-49), 3) := by decide +kernel
theorem dL_isPushed_364 : decode cL_isPushed 364 = .ok (.iconst 0, 1) := by decide +kernel
theorem dL_isPushed_365 : decode cL_isPushed 365 = .ok (.istore 18, 2) := by decide +kernel
theorem dL_isPushed_367 : decode cL_isPushed 367 = .ok (.iload 18, 2) := by decide +kernel
theorem dL_isPushed_369 : decode cL_isPushed 369 = .ok (.iload 5, 2) := by decide +kernel
theorem dL_isPushed_371 : decode cL_isPushed 371 = .ok (.iload_n 2, 1) := by decide +kernel
theorem dL_isPushed_372 : decode cL_isPushed 372 = .ok (.isub, 1) := by decide +kernel
theorem dL_isPushed_373 : decode cL_isPushed 373 = .ok (.if_icmp .ge 26, 3) := by decide +kernel
theorem dL_isPushed_376 : decode cL_isPushed 376 = .ok (.aload_n 0, 1) := by decide +kernel
theorem dL_isPushed_377 : decode cL_isPushed 377 = .ok (.bipush (-6), 2) := by decide +kernel
theorem dL_isPushed_379 : decode cL_isPushed 379 = .ok (.iload 18, 2) := by decide +kernel
theorem dL_isPushed_381 : decode cL_isPushed 381 = .ok (.invokevirtual 18, 3) := by decide +kernel
theorem dL_isPushed_384 : decode cL_isPushed 384 = .ok (.aload_n 3, 1) := by decide +kernel
theorem dL_isPushed_385 : decode cL_isPushed 385 = .ok (.iload 18, 2) := by decide +kernel
theorem dL_isPushed_387 : decode cL_isPushed 387 = .ok (.iaload, 1) := by decide +kernel
theorem dL_isPushed_388 : decode cL_isPushed 388 = .ok (.if_icmp .eq 5, 3) := by decide +kernel
theorem dL_isPushed_391 : decode cL_isPushed 391 = .ok (.iconst 0, 1) := by decide +kernel
theorem dL_isPushed_392 : decode cL_isPushed 392 = .ok (.ireturn, 1) := by decide +kernel
theorem dL_isPushed_393 : decode cL_isPushed 393 = .ok (.iinc 18 1, 3) := by decide +kernel
theorem dL_isPushed_396 : decode cL_isPushed 396 = .ok (.goto (-29), 3) := by decide +kernel
theorem dL_isPushed_399 : decode cL_isPushed 399 = .ok (.aload_n 0, 1) := by decide +kernel
theorem dL_isPushed_400 : decode cL_isPushed 400 = .ok (.iload 11, 2) := by decide +kernel
theorem dL_isPushed_402 : decode cL_isPushed 402 = .ok (.iload 12, 2) := by decide +kernel
theorem dL_isPushed_404 : decode cL_isPushed 404 = .ok (.iload 10, 2) := by decide +kernel
theorem dL_isPushed_406 : decode cL_isPushed 406 = .ok (.iload 9, 2) := by decide +kernel
theorem dL_isPushed_408 : decode cL_isPushed 408 = .ok (.iload 13, 2) := by decide +kernel
theorem dL_isPushed_410 : decode cL_isPushed 410 = .ok (.iload 14, 2) := by decide +kernel
theorem dL_isPushed_412 : decode cL_isPushed 412 = .ok (.iload 15, 2) := by decide +kernel
theorem dL_isPushed_414 : decode cL_isPushed 414 = .ok (.invokestatic 40, 3) := by decide +kernel
theorem dL_isPushed_417 : decode cL_isPushed 417 = .ok (.ireturn, 1) := by decide +kernel
theorem dL_isRound_0 : decode cL_isRound 0 = .ok (.bipush 32, 2) := by decide +kernel
theorem dL_isRound_2 : decode cL_isRound 2 = .ok (.newarray .int, 2) := by decide +kernel
theorem dL_isRound_4 : decode cL_isRound 4 = .ok (.astore_n 1, 1) := by decide +kernel
theorem dL_isRound_5 : decode cL_isRound 5 = .ok (.aload_n 0, 1) := by decide +kernel
theorem dL_isRound_6 : decode cL_isRound 6 = .ok (.bipush (-6), 2) := by decide +kernel
theorem dL_isRound_8 : decode cL_isRound 8 = .ok (.aload_n 1, 1) := by decide +kernel
theorem dL_isRound_9 : decode cL_isRound 9 = .ok (.invokestatic 24, 3) := by decide +kernel
theorem dL_isRound_12 : decode cL_isRound 12 = .ok (.istore_n 2, 1) := by decide +kernel
theorem dL_isRound_13 : decode cL_isRound 13 = .ok (.iload_n 2, 1) := by decide +kernel
theorem dL_isRound_14 : decode cL_isRound 14 = .ok (.ifCond .le 21, 3) := by decide +kernel
theorem dL_isRound_17 : decode cL_isRound 17 = .ok (.aload_n 0, 1) := by decide +kernel
theorem dL_isRound_18 : decode cL_isRound 18 = .ok (.iconst 4, 1) := by decide +kernel
theorem dL_isRound_19 : decode cL_isRound 19 = .ok (.invokevirtual 8, 3) := by decide +kernel
theorem dL_isRound_22 : decode cL_isRound 22 = .ok (.aload_n 0, 1) := by decide +kernel
theorem dL_isRound_23 : decode cL_isRound 23 = .ok (.bipush 16, 2) := by decide +kernel
theorem dL_isRound_25 : decode cL_isRound 25 = .ok (.invokevirtual 8, 3) := by decide +kernel
theorem dL_isRound_28 : decode cL_isRound 28 = .ok (.if_icmp .gt 7, 3) := by decide +kernel
theorem dL_isRound_31 : decode cL_isRound 31 = .ok (.iconst 1, 1) := by decide +kernel
theorem dL_isRound_32 : decode cL_isRound 32 = .ok (.goto 4, 3) := by decide +kernel
end
section
theorem dL_isRound_35 : decode cL_isRound 35 = .ok (.iconst 0, 1) := by decide +kernel
theorem dL_isRound_36 : decode cL_isRound 36 = .ok (.istore_n 3, 1) := by decide +kernel
theorem dL_isRound_37 : decode cL_isRound 37 = .ok (.aload_n 0, 1) := by decide +kernel
theorem dL_isRound_38 : decode cL_isRound 38 = .ok (.bipush 19, 2) := by decide +kernel
theorem dL_isRound_40 : decode cL_isRound 40 = .ok (.invokevirtual 8, 3) := by decide +kernel
theorem dL_isRound_43 : decode cL_isRound 43 = .ok (.iconst 2, 1) := by decide +kernel
theorem dL_isRound_44 : decode cL_isRound 44 = .ok (.aload_n 0, 1) := by decide +kernel
theorem dL_isRound_45 : decode cL_isRound 45 = .ok (.bipush 18, 2) := by decide +kernel
theorem dL_isRound_47 : decode cL_isRound 47 = .ok (.invokevirtual 8, 3) := by decide +kernel
theorem dL_isRound_50 : decode cL_isRound 50 = .ok (.imul, 1) := by decide +kernel
theorem dL_isRound_51 : decode cL_isRound 51 = .ok (.iadd, 1) := by decide +kernel
theorem dL_isRound_52 : decode cL_isRound 52 = .ok (.istore 4, 2) := by decide +kernel
theorem dL_isRound_54 : decode cL_isRound 54 = .ok (.aload_n 0, 1) := by decide +kernel
theorem dL_isRound_55 : decode cL_isRound 55 = .ok (.iconst 0, 1) := by decide +kernel
theorem dL_isRound_56 : decode cL_isRound 56 = .ok (.invokevirtual 8, 3) := by decide +kernel
theorem dL_isRound_59 : decode cL_isRound 59 = .ok (.istore 5, 2) := by decide +kernel
theorem dL_isRound_61 : decode cL_isRound 61 = .ok (.aload_n 0, 1) := by decide +kernel
theorem dL_isRound_62 : decode cL_isRound 62 = .ok (.iload 4, 2) := by decide +kernel
theorem dL_isRound_64 : decode cL_isRound 64 = .ok (.invokevirtual 37, 3) := by decide +kernel
theorem dL_isRound_67 : decode cL_isRound 67 = .ok (.istore 6, 2) := by decide +kernel
theorem dL_isRound_69 : decode cL_isRound 69 = .ok (.aload_n 0, 1) := by decide +kernel
theorem dL_isRound_70 : decode cL_isRound 70 = .ok (.bipush 9, 2) := by decide +kernel
theorem dL_isRound_72 : decode cL_isRound 72 = .ok (.invokevirtual 8, 3) := by decide +kernel
theorem dL_isRound_75 : decode cL_isRound 75 = .ok (.istore 7, 2) := by decide +kernel
theorem dL_isRound_77 : decode cL_isRound 77 = .ok (.aload_n 0, 1) := by decide +kernel
theorem dL_isRound_78 : decode cL_isRound 78 = .ok (.bipush 10, 2) := by decide +kernel
theorem dL_isRound_80 : decode cL_isRound 80 = .ok (.invokevirtual 8, 3) := by decide +kernel
theorem dL_isRound_83 : decode cL_isRound 83 = .ok (.istore 8, 2) := by decide +kernel
theorem dL_isRound_85 : decode cL_isRound 85 = .ok (.aload_n 0, 1) := by decide +kernel
theorem dL_isRound_86 : decode cL_isRound 86 = .ok (.bipush 11, 2) := by decide +kernel
theorem dL_isRound_88 : decode cL_isRound 88 = .ok (.invokevirtual 8, 3) := by decide +kernel
theorem dL_isRound_91 : decode cL_isRound 91 = .ok (.istore 9, 2) := by decide +kernel
theorem dL_isRound_93 : decode cL_isRound 93 = .ok (.aload_n 0, 1) := by decide +kernel
theorem dL_isRound_94 : decode cL_isRound 94 = .ok (.invokevirtual 51, 3) := by decide +kernel
theorem dL_isRound_97 : decode cL_isRound 97 = .ok (.istore 10, 2) := by decide +kernel
theorem dL_isRound_99 : decode cL_isRound 99 = .ok (.iload_n 3, 1) := by decide +kernel
theorem dL_isRound_100 : decode cL_isRound 100 = .ok (.ifCond .ne 26, 3) := by decide +kernel
theorem dL_isRound_103 : decode cL_isRound 103 = .ok (.iload 10, 2) := by decide +kernel
theorem dL_isRound_105 : decode cL_isRound 105 = .ok (.bipush (-5), 2) := by decide +kernel
theorem dL_isRound_107 : decode cL_isRound 107 = .ok (.if_icmp .ne 17, 3) := by decide +kernel
theorem dL_isRound_110 : decode cL_isRound 110 = .ok (.aload_n 0, 1) := by decide +kernel
theorem dL_isRound_111 : decode cL_isRound 111 = .ok (.iconst 0, 1) := by decide +kernel
theorem dL_isRound_112 : decode cL_isRound 112 = .ok (.invokevirtual 8, 3) := by decide +kernel
theorem dL_isRound_115 : decode cL_isRound 115 = .ok (.iload 5, 2) := by decide +kernel
theorem dL_isRound_117 : decode cL_isRound 117 = .ok (.if_icmp .ne 7, 3) := by decide +kernel
theorem dL_isRound_120 : decode cL_isRound 120 = .ok (.iconst 1, 1) := by decide +kernel
theorem dL_isRound_121 : decode cL_isRound 121 = .ok (.goto 4, 3) := by decide +kernel
theorem dL_isRound_124 : decode cL_isRound 124 = .ok (.iconst 0, 1) := by decide +kernel
theorem dL_isRound_125 : decode cL_isRound 125 = .ok (.ireturn, 1) := by decide +kernel
theorem dL_isRound_126 : decode cL_isRound 126 = .ok (.iconst 0, 1) := by decide +kernel
theorem dL_isRound_127 : decode cL_isRound 127 = .ok (.istore 11, 2) := by decide +kernel
theorem dL_isRound_129 : decode cL_isRound 129 = .ok (.iload 11, 2) := by decide +kernel
theorem dL_isRound_131 : decode cL_isRound 131 = .ok (.iload_n 2, 1) := by decide +kernel
theorem dL_isRound_132 : decode cL_isRound 132 = .ok (.if_icmp .ge 30, 3) := by decide +kernel
theorem dL_isRound_135 : decode cL_isRound 135 = .ok (.aload_n 0, 1) := by decide +kernel
theorem dL_isRound_136 : decode cL_isRound 136 = .ok (.bipush (-6), 2) := by decide +kernel
theorem dL_isRound_138 : decode cL_isRound 138 = .ok (.iload 11, 2) := by decide +kernel
theorem dL_isRound_140 : decode cL_isRound 140 = .ok (.invokevirtual 18, 3) := by decide +kernel
theorem dL_isRound_143 : decode cL_isRound 143 = .ok (.aload_n 1, 1) := by decide +kernel
theorem dL_isRound_144 : decode cL_isRound 144 = .ok (.iload_n 2, 1) := by decide +kernel
theorem dL_isRound_145 : decode cL_isRound 145 = .ok (.iconst 1, 1) := by decide +kernel
theorem dL_isRound_146 : decode cL_isRound 146 = .ok (.isub, 1) := by decide +kernel
theorem dL_isRound_147 : decode cL_isRound 147 = .ok (.iload 11, 2) := by decide +kernel
theorem dL_isRound_149 : decode cL_isRound 149 = .ok (.isub, 1) := by decide +kernel
theorem dL_isRound_150 : decode cL_isRound 150 = .ok (.iaload, 1) := by decide +kernel
theorem dL_isRound_151 : decode cL_isRound 151 = .ok (.if_icmp .eq 5, 3) := by decide +kernel
theorem dL_isRound_154 : decode cL_isRound 154 = .ok (.iconst 0, 1) := by decide +kernel
theorem dL_isRound_155 : decode cL_isRound 155 = .ok (.ireturn, 1) := by decide +kernel
theorem dL_isRound_156 : decode cL_isRound 156 = .ok (.iinc 11 1, 3) := by decide +kernel
theorem dL_isRound_159 : decode cL_isRound 159 = .ok (.goto (-30), 3) := by decide +kernel
theorem dL_isRound_162 : decode cL_isRound 162 = .ok (.iload 10, 2) := by decide +kernel
theorem dL_isRound_164 : decode cL_isRound 164 = .ok (.aload_n 0, 1) := by decide +kernel
theorem dL_isRound_165 : decode cL_isRound 165 = .ok (.iconst 0, 1) := by decide +kernel
theorem dL_isRound_166 : decode cL_isRound 166 = .ok (.invokevirtual 8, 3) := by decide +kernel
theorem dL_isRound_169 : decode cL_isRound 169 = .ok (.if_icmp .ne 36, 3) := by decide +kernel
theorem dL_isRound_172 : decode cL_isRound 172 = .ok (.aload_n 0, 1) := by decide +kernel
theorem dL_isRound_173 : decode cL_isRound 173 = .ok (.iconst 3, 1) := by decide +kernel
theorem dL_isRound_174 : decode cL_isRound 174 = .ok (.invokevirtual 8, 3) := by decide +kernel
theorem dL_isRound_177 : decode cL_isRound 177 = .ok (.iload_n 2, 1) := by decide +kernel
theorem dL_isRound_178 : decode cL_isRound 178 = .ok (.if_icmp .ne 27, 3) := by decide +kernel
theorem dL_isRound_181 : decode cL_isRound 181 = .ok (.aload_n 0, 1) := by decide +kernel
theorem dL_isRound_182 : decode cL_isRound 182 = .ok (.iload 5, 2) := by decide +kernel
theorem dL_isRound_184 : decode cL_isRound 184 = .ok (.iload 6, 2) := by decide +kernel
theorem dL_isRound_186 : decode cL_isRound 186 = .ok (.iload 4, 2) := by decide +kernel
theorem dL_isRound_188 : decode cL_isRound 188 = .ok (.iconst 2, 1) := by decide +kernel
theorem dL_isRound_189 : decode cL_isRound 189 = .ok (.iload 7, 2) := by decide +kernel
theorem dL_isRound_191 : decode cL_isRound 191 = .ok (.iload 8, 2) := by decide +kernel
theorem dL_isRound_193 : decode cL_isRound 193 = .ok (.iload 9, 2) := by decide +kernel
theorem dL_isRound_195 : decode cL_isRound 195 = .ok (.invokestatic 40, 3) := by decide +kernel
theorem dL_isRound_198 : decode cL_isRound 198 = .ok (.ifCond .eq 7, 3) := by decide +kernel
theorem dL_isRound_201 : decode cL_isRound 201 = .ok (.iconst 1, 1) := by decide +kernel
theorem dL_isRound_202 : decode cL_isRound 202 = .ok (.goto 4, 3) := by decide +kernel
theorem dL_isRound_205 : decode cL_isRound 205 = .ok (.iconst 0, 1) := by decide +kernel
theorem dL_isRound_206 : decode cL_isRound 206 = .ok (.ireturn, 1) := by decide +kernel
theorem dL_isWagon_0 : decode cL_isWagon 0 = .ok (.aload_n 0, 1) := by decide +kernel
theorem dL_isWagon_1 : decode cL_isWagon 1 = .ok (.iconst 2, 1) := by decide +kernel
theorem dL_isWagon_2 : decode cL_isWagon 2 = .ok (.invokevirtual 8, 3) := by decide +kernel
theorem dL_isWagon_5 : decode cL_isWagon 5 = .ok (.istore_n 3, 1) := by decide +kernel
theorem dL_isWagon_6 : decode cL_isWagon 6 = .ok (.aload_n 0, 1) := by decide +kernel
theorem dL_isWagon_7 : decode cL_isWagon 7 = .ok (.iload_n 1, 1) := by decide +kernel
theorem dL_isWagon_8 : decode cL_isWagon 8 = .ok (.iconst 1, 1) := by decide +kernel
theorem dL_isWagon_9 : decode cL_isWagon 9 = .ok (.invokevirtual 14, 3) := by decide +kernel
theorem dL_isWagon_12 : decode cL_isWagon 12 = .ok (.istore 4, 2) := by decide +kernel
theorem dL_isWagon_14 : decode cL_isWagon 14 = .ok (.aload_n 0, 1) := by decide +kernel
theorem dL_isWagon_15 : decode cL_isWagon 15 = .ok (.iload_n 1, 1) := by decide +kernel
theorem dL_isWagon_16 : decode cL_isWagon 16 = .ok (.iconst 2, 1) := by decide +kernel
theorem dL_isWagon_17 : decode cL_isWagon 17 = .ok (.invokevirtual 14, 3) := by decide +kernel
theorem dL_isWagon_20 : decode cL_isWagon 20 = .ok (.iload_n 2, 1) := by decide +kernel
theorem dL_isWagon_21 : decode cL_isWagon 21 = .ok (.iadd, 1) := by decide +kernel
theorem dL_isWagon_22 : decode cL_isWagon 22 = .ok (.aload_n 0, 1) := by decide +kernel
theorem dL_isWagon_23 : decode cL_isWagon 23 = .ok (.iload_n 1, 1) := by decide +kernel
theorem dL_isWagon_24 : decode cL_isWagon 24 = .ok (.iconst 0, 1) := by decide +kernel
theorem dL_isWagon_25 : decode cL_isWagon 25 = .ok (.invokevirtual 14, 3) := by decide +kernel
theorem dL_isWagon_28 : decode cL_isWagon 28 = .ok (.if_icmp .gt 7, 3) := by decide +kernel
theorem dL_isWagon_31 : decode cL_isWagon 31 = .ok (.iconst 1, 1) := by decide +kernel
theorem dL_isWagon_32 : decode cL_isWagon 32 = .ok (.goto 4, 3) := by decide +kernel
theorem dL_isWagon_35 : decode cL_isWagon 35 = .ok (.iconst 0, 1) := by decide +kernel
theorem dL_isWagon_36 : decode cL_isWagon 36 = .ok (.istore 5, 2) := by decide +kernel
theorem dL_isWagon_38 : decode cL_isWagon 38 = .ok (.aload_n 0, 1) := by decide +kernel
theorem dL_isWagon_39 : decode cL_isWagon 39 = .ok (.iload_n 1, 1) := by decide +kernel
theorem dL_isWagon_40 : decode cL_isWagon 40 = .ok (.iload_n 2, 1) := by decide +kernel
theorem dL_isWagon_41 : decode cL_isWagon 41 = .ok (.invokevirtual 54, 3) := by decide +kernel
theorem dL_isWagon_44 : decode cL_isWagon 44 = .ok (.istore 6, 2) := by decide +kernel
theorem dL_isWagon_46 : decode cL_isWagon 46 = .ok (.iload_n 3, 1) := by decide +kernel
theorem dL_isWagon_47 : decode cL_isWagon 47 = .ok (.bipush 30, 2) := by decide +kernel
theorem dL_isWagon_49 : decode cL_isWagon 49 = .ok (.if_icmp .eq 8, 3) := by decide +kernel
theorem dL_isWagon_52 : decode cL_isWagon 52 = .ok (.iload 5, 2) := by decide +kernel
theorem dL_isWagon_54 : decode cL_isWagon 54 = .ok (.ifCond .ne 38, 3) := by decide +kernel
theorem dL_isWagon_57 : decode cL_isWagon 57 = .ok (.iload 6, 2) := by decide +kernel
theorem dL_isWagon_59 : decode cL_isWagon 59 = .ok (.iload_n 3, 1) := by decide +kernel
theorem dL_isWagon_60 : decode cL_isWagon 60 = .ok (.bipush 30, 2) := by decide +kernel
theorem dL_isWagon_62 : decode cL_isWagon 62 = .ok (.if_icmp .ne 8, 3) := by decide +kernel
theorem dL_isWagon_65 : decode cL_isWagon 65 = .ok (.bipush (-4), 2) := by decide +kernel
theorem dL_isWagon_67 : decode cL_isWagon 67 = .ok (.goto 5, 3) := by decide +kernel
theorem dL_isWagon_70 : decode cL_isWagon 70 = .ok (.bipush (-5), 2) := by decide +kernel
theorem dL_isWagon_72 : decode cL_isWagon 72 = .ok (.if_icmp .ne 18, 3) := by decide +kernel
theorem dL_isWagon_75 : decode cL_isWagon 75 = .ok (.aload_n 0, 1) := by decide +kernel
theorem dL_isWagon_76 : decode cL_isWagon 76 = .ok (.iload_n 1, 1) := by decide +kernel
theorem dL_isWagon_77 : decode cL_isWagon 77 = .ok (.iconst 1, 1) := by decide +kernel
theorem dL_isWagon_78 : decode cL_isWagon 78 = .ok (.invokevirtual 14, 3) := by decide +kernel
theorem dL_isWagon_81 : decode cL_isWagon 81 = .ok (.iload 4, 2) := by decide +kernel
theorem dL_isWagon_83 : decode cL_isWagon 83 = .ok (.if_icmp .ne 7, 3) := by decide +kernel
theorem dL_isWagon_86 : decode cL_isWagon 86 = .ok (.iconst 1, 1) := by decide +kernel
theorem dL_isWagon_87 : decode cL_isWagon 87 = .ok (.goto 4, 3) := by decide +kernel
theorem dL_isWagon_90 : decode cL_isWagon 90 = .ok (.iconst 0, 1) := by decide +kernel
theorem dL_isWagon_91 : decode cL_isWagon 91 = .ok (.ireturn, 1) := by decide +kernel
theorem dL_isWagon_92 : decode cL_isWagon 92 = .ok (.iload 6, 2) := by decide +kernel
theorem dL_isWagon_94 : decode cL_isWagon 94 = .ok (.iload_n 3, 1) := by decide +kernel
theorem dL_isWagon_95 : decode cL_isWagon 95 = .ok (.if_icmp .ne 61, 3) := by decide +kernel
theorem dL_isWagon_98 : decode cL_isWagon 98 = .ok (.aload_n 0, 1) := by decide +kernel
theorem dL_isWagon_99 : decode cL_isWagon 99 = .ok (.iload_n 1, 1) := by decide +kernel
theorem dL_isWagon_100 : decode cL_isWagon 100 = .ok (.iconst 0, 1) := by decide +kernel
theorem dL_isWagon_101 : decode cL_isWagon 101 = .ok (.invokevirtual 18, 3) := by decide +kernel
theorem dL_isWagon_104 : decode cL_isWagon 104 = .ok (.iload_n 3, 1) := by decide +kernel
theorem dL_isWagon_105 : decode cL_isWagon 105 = .ok (.if_icmp .ne 51, 3) := by decide +kernel
theorem dL_isWagon_108 : decode cL_isWagon 108 = .ok (.aload_n 0, 1) := by decide +kernel
theorem dL_isWagon_109 : decode cL_isWagon 109 = .ok (.iload_n 1, 1) := by decide +kernel
theorem dL_isWagon_110 : decode cL_isWagon 110 = .ok (.iconst 1, 1) := by decide +kernel
theorem dL_isWagon_111 : decode cL_isWagon 111 = .ok (.invokevirtual 14, 3) := by decide +kernel
theorem dL_isWagon_114 : decode cL_isWagon 114 = .ok (.iload 4, 2) := by decide +kernel
theorem dL_isWagon_116 : decode cL_isWagon 116 = .ok (.iconst 1, 1) := by decide +kernel
theorem dL_isWagon_117 : decode cL_isWagon 117 = .ok (.iadd, 1) := by decide +kernel
theorem dL_isWagon_118 : decode cL_isWagon 118 = .ok (.if_icmp .ne 38, 3) := by decide +kernel
theorem dL_isWagon_121 : decode cL_isWagon 121 = .ok (.aload_n 0, 1) := by decide +kernel
theorem dL_isWagon_122 : decode cL_isWagon 122 = .ok (.iload_n 3, 1) := by decide +kernel
theorem dL_isWagon_123 : decode cL_isWagon 123 = .ok (.iconst 0, 1) := by decide +kernel
theorem dL_isWagon_124 : decode cL_isWagon 124 = .ok (.invokevirtual 21, 3) := by decide +kernel
theorem dL_isWagon_127 : decode cL_isWagon 127 = .ok (.iload_n 2, 1) := by decide +kernel
theorem dL_isWagon_128 : decode cL_isWagon 128 = .ok (.if_icmp .ne 28, 3) := by decide +kernel
theorem dL_isWagon_131 : decode cL_isWagon 131 = .ok (.aload_n 0, 1) := by decide +kernel
theorem dL_isWagon_132 : decode cL_isWagon 132 = .ok (.iload_n 3, 1) := by decide +kernel
theorem dL_isWagon_133 : decode cL_isWagon 133 = .ok (.iconst 5, 1) := by decide +kernel
theorem dL_isWagon_134 : decode cL_isWagon 134 = .ok (.invokevirtual 21, 3) := by decide +kernel
theorem dL_isWagon_137 : decode cL_isWagon 137 = .ok (.ifCond .ne 19, 3) := by decide +kernel
theorem dL_isWagon_140 : decode cL_isWagon 140 = .ok (.aload_n 0, 1) := by decide +kernel
theorem dL_isWagon_141 : decode cL_isWagon 141 = .ok (.iload_n 3, 1) := by decide +kernel
theorem dL_isWagon_142 : decode cL_isWagon 142 = .ok (.bipush 6, 2) := by decide +kernel
theorem dL_isWagon_144 : decode cL_isWagon 144 = .ok (.invokevirtual 21, 3) := by decide +kernel
theorem dL_isWagon_147 : decode cL_isWagon 147 = .ok (.bipush (-6), 2) := by decide +kernel
theorem dL_isWagon_149 : decode cL_isWagon 149 = .ok (.if_icmp .ne 7, 3) := by decide +kernel
theorem dL_isWagon_152 : decode cL_isWagon 152 = .ok (.iconst 1, 1) := by decide +kernel
theorem dL_isWagon_153 : decode cL_isWagon 153 = .ok (.goto 4, 3) := by decide +kernel
theorem dL_isWagon_156 : decode cL_isWagon 156 = .ok (.iconst 0, 1) := by decide +kernel
theorem dL_isWagon_157 : decode cL_isWagon 157 = .ok (.ireturn, 1) := by decide +kernel
theorem dL_isTrain_0 : decode cL_isTrain 0 = .ok (.aload_n 0, 1) := by decide +kernel
theorem dL_isTrain_1 : decode cL_isTrain 1 = .ok (.iconst 2, 1) := by decide +kernel
theorem dL_isTrain_2 : decode cL_isTrain 2 = .ok (.invokevirtual 8, 3) := by decide +kernel
theorem dL_isTrain_5 : decode cL_isTrain 5 = .ok (.istore 5, 2) := by decide +kernel
theorem dL_isTrain_7 : decode cL_isTrain 7 = .ok (.lconst 0, 1) := by decide +kernel
theorem dL_isTrain_8 : decode cL_isTrain 8 = .ok (.lstore 6, 2) := by decide +kernel
theorem dL_isTrain_10 : decode cL_isTrain 10 = .ok (.iconst 1, 1) := by decide +kernel
theorem dL_isTrain_11 : decode cL_isTrain 11 = .ok (.istore 8, 2) := by decide +kernel
theorem dL_isTrain_13 : decode cL_isTrain 13 = .ok (.iconst 1, 1) := by decide +kernel
theorem dL_isTrain_14 : decode cL_isTrain 14 = .ok (.istore 9, 2) := by decide +kernel
theorem dL_isTrain_16 : decode cL_isTrain 16 = .ok (.iload_n 3, 1) := by decide +kernel
theorem dL_isTrain_17 : decode cL_isTrain 17 = .ok (.iconst 1, 1) := by decide +kernel
theorem dL_isTrain_18 : decode cL_isTrain 18 = .ok (.isub, 1) := by decide +kernel
theorem dL_isTrain_19 : decode cL_isTrain 19 = .ok (.istore 10, 2) := by decide +kernel
theorem dL_isTrain_21 : decode cL_isTrain 21 = .ok (.iload 10, 2) := by decide +kernel
theorem dL_isTrain_23 : decode cL_isTrain 23 = .ok (.ifCond .lt 93, 3) := by decide +kernel
theorem dL_isTrain_26 : decode cL_isTrain 26 = .ok (.iload_n 1, 1) := by decide +kernel
theorem dL_isTrain_27 : decode cL_isTrain 27 = .ok (.iload_n 2, 1) := by decide +kernel
theorem dL_isTrain_28 : decode cL_isTrain 28 = .ok (.iload 10, 2) := by decide +kernel
theorem dL_isTrain_30 : decode cL_isTrain 30 = .ok (.imul, 1) := by decide +kernel
theorem dL_isTrain_31 : decode cL_isTrain 31 = .ok (.iadd, 1) := by decide +kernel
theorem dL_isTrain_32 : decode cL_isTrain 32 = .ok (.bipush 30, 2) := by decide +kernel
theorem dL_isTrain_34 : decode cL_isTrain 34 = .ok (.irem, 1) := by decide +kernel
theorem dL_isTrain_35 : decode cL_isTrain 35 = .ok (.istore 11, 2) := by decide +kernel
theorem dL_isTrain_37 : decode cL_isTrain 37 = .ok (.iload 8, 2) := by decide +kernel
theorem dL_isTrain_39 : decode cL_isTrain 39 = .ok (.ifCond .eq 24, 3) := by decide +kernel
theorem dL_isTrain_42 : decode cL_isTrain 42 = .ok (.iload 11, 2) := by decide +kernel
theorem dL_isTrain_44 : decode cL_isTrain 44 = .ok (.iload 5, 2) := by decide +kernel
theorem dL_isTrain_46 : decode cL_isTrain 46 = .ok (.if_icmp .ge 17, 3) := by decide +kernel
theorem dL_isTrain_49 : decode cL_isTrain 49 = .ok (.aload_n 0, 1) := by decide +kernel
theorem dL_isTrain_50 : decode cL_isTrain 50 = .ok (.iload 11, 2) := by decide +kernel
theorem dL_isTrain_52 : decode cL_isTrain 52 = .ok (.iconst 4, 1) := by decide +kernel
theorem dL_isTrain_53 : decode cL_isTrain 53 = .ok (.invokevirtual 21, 3) := by decide +kernel
theorem dL_isTrain_56 : decode cL_isTrain 56 = .ok (.ifCond .ge 7, 3) := by decide +kernel
theorem dL_isTrain_59 : decode cL_isTrain 59 = .ok (.iconst 1, 1) := by decide +kernel
theorem dL_isTrain_60 : decode cL_isTrain 60 = .ok (.goto 4, 3) := by decide +kernel
theorem dL_isTrain_63 : decode cL_isTrain 63 = .ok (.iconst 0, 1) := by decide +kernel
theorem dL_isTrain_64 : decode cL_isTrain 64 = .ok (.istore 8, 2) := by decide +kernel
theorem dL_isTrain_66 : decode cL_isTrain 66 = .ok (.iload 9, 2) := by decide +kernel
theorem dL_isTrain_68 : decode cL_isTrain 68 = .ok (.ifCond .eq 25, 3) := by decide +kernel
theorem dL_isTrain_71 : decode cL_isTrain 71 = .ok (.iload 11, 2) := by decide +kernel
theorem dL_isTrain_73 : decode cL_isTrain 73 = .ok (.iload 5, 2) := by decide +kernel
theorem dL_isTrain_75 : decode cL_isTrain 75 = .ok (.if_icmp .ge 14, 3) := by decide +kernel
theorem dL_isTrain_78 : decode cL_isTrain 78 = .ok (.aload_n 0, 1) := by decide +kernel
theorem dL_isTrain_79 : decode cL_isTrain 79 = .ok (.iload 11, 2) := by decide +kernel
theorem dL_isTrain_81 : decode cL_isTrain 81 = .ok (.bipush 6, 2) := by decide +kernel
theorem dL_isTrain_83 : decode cL_isTrain 83 = .ok (.invokevirtual 21, 3) := by decide +kernel
theorem dL_isTrain_86 : decode cL_isTrain 86 = .ok (.ifCond .ge 7, 3) := by decide +kernel
theorem dL_isTrain_89 : decode cL_isTrain 89 = .ok (.iconst 1, 1) := by decide +kernel
theorem dL_isTrain_90 : decode cL_isTrain 90 = .ok (.goto 4, 3) := by decide +kernel
theorem dL_isTrain_93 : decode cL_isTrain 93 = .ok (.iconst 0, 1) := by decide +kernel
theorem dL_isTrain_94 : decode cL_isTrain 94 = .ok (.istore 9, 2) := by decide +kernel
theorem dL_isTrain_96 : decode cL_isTrain 96 = .ok (.ldc2_w 57, 3) := by decide +kernel
theorem dL_isTrain_99 : decode cL_isTrain 99 = .ok (.lload 6, 2) := by decide +kernel
theorem dL_isTrain_101 : decode cL_isTrain 101 = .ok (.lmul, 1) := by decide +kernel
theorem dL_isTrain_102 : decode cL_isTrain 102 = .ok (.iload 11, 2) := by decide +kernel
theorem dL_isTrain_104 : decode cL_isTrain 104 = .ok (.i2l, 1) := by decide +kernel
theorem dL_isTrain_105 : decode cL_isTrain 105 = .ok (.ladd, 1) := by decide +kernel
theorem dL_isTrain_106 : decode cL_isTrain 106 = .ok (.lconst 1, 1) := by decide +kernel
theorem dL_isTrain_107 : decode cL_isTrain 107 = .ok (.ladd, 1) := by decide +kernel
theorem dL_isTrain_108 : decode cL_isTrain 108 = .ok (.lstore 6, 2) := by decide +kernel
theorem dL_isTrain_110 : decode cL_isTrain 110 = .ok (.iinc 10 (-1), 3) := by decide +kernel
theorem dL_isTrain_113 : decode cL_isTrain 113 = .ok (.goto (-92), 3) := by decide +kernel
theorem dL_isTrain_116 : decode cL_isTrain 116 = .ok (.aload_n 0, 1) := by decide +kernel
theorem dL_isTrain_117 : decode cL_isTrain 117 = .ok (.bipush 6, 2) := by decide +kernel
theorem dL_isTrain_119 : decode cL_isTrain 119 = .ok (.invokevirtual 8, 3) := by decide +kernel
theorem dL_isTrain_122 : decode cL_isTrain 122 = .ok (.istore 10, 2) := by decide +kernel
theorem dL_isTrain_124 : decode cL_isTrain 124 = .ok (.aload_n 0, 1) := by decide +kernel
theorem dL_isTrain_125 : decode cL_isTrain 125 = .ok (.lload 6, 2) := by decide +kernel
theorem dL_isTrain_127 : decode cL_isTrain 127 = .ok (.aload_n 0, 1) := by decide +kernel
theorem dL_isTrain_128 : decode cL_isTrain 128 = .ok (.iconst 0, 1) := by decide +kernel
theorem dL_isTrain_129 : decode cL_isTrain 129 = .ok (.invokevirtual 8, 3) := by decide +kernel
theorem dL_isTrain_132 : decode cL_isTrain 132 = .ok (.iload 4, 2) := by decide +kernel
theorem dL_isTrain_134 : decode cL_isTrain 134 = .ok (.iadd, 1) := by decide +kernel
theorem dL_isTrain_135 : decode cL_isTrain 135 = .ok (.invokevirtual 59, 3) := by decide +kernel
theorem dL_isTrain_138 : decode cL_isTrain 138 = .ok (.istore 11, 2) := by decide +kernel
theorem dL_isTrain_140 : decode cL_isTrain 140 = .ok (.iload 8, 2) := by decide +kernel
theorem dL_isTrain_142 : decode cL_isTrain 142 = .ok (.ifCond .eq 15, 3) := by decide +kernel
theorem dL_isTrain_145 : decode cL_isTrain 145 = .ok (.iload 10, 2) := by decide +kernel
theorem dL_isTrain_147 : decode cL_isTrain 147 = .ok (.bipush 8, 2) := by decide +kernel
theorem dL_isTrain_149 : decode cL_isTrain 149 = .ok (.if_icmp .eq 8, 3) := by decide +kernel
theorem dL_isTrain_152 : decode cL_isTrain 152 = .ok (.iload 9, 2) := by decide +kernel
theorem dL_isTrain_154 : decode cL_isTrain 154 = .ok (.ifCond .ne 49, 3) := by decide +kernel
theorem dL_isTrain_157 : decode cL_isTrain 157 = .ok (.iload 11, 2) := by decide +kernel
theorem dL_isTrain_159 : decode cL_isTrain 159 = .ok (.iload 8, 2) := by decide +kernel
theorem dL_isTrain_161 : decode cL_isTrain 161 = .ok (.ifCond .ne 8, 3) := by decide +kernel
theorem dL_isTrain_164 : decode cL_isTrain 164 = .ok (.bipush (-2), 2) := by decide +kernel
theorem dL_isTrain_166 : decode cL_isTrain 166 = .ok (.goto 17, 3) := by decide +kernel
theorem dL_isTrain_169 : decode cL_isTrain 169 = .ok (.iload 10, 2) := by decide +kernel
theorem dL_isTrain_171 : decode cL_isTrain 171 = .ok (.bipush 8, 2) := by decide +kernel
theorem dL_isTrain_173 : decode cL_isTrain 173 = .ok (.if_icmp .ne 8, 3) := by decide +kernel
theorem dL_isTrain_176 : decode cL_isTrain 176 = .ok (.bipush (-4), 2) := by decide +kernel
theorem dL_isTrain_178 : decode cL_isTrain 178 = .ok (.goto 5, 3) := by decide +kernel
theorem dL_isTrain_181 : decode cL_isTrain 181 = .ok (.bipush (-5), 2) := by decide +kernel
theorem dL_isTrain_183 : decode cL_isTrain 183 = .ok (.if_icmp .ne 18, 3) := by decide +kernel
theorem dL_isTrain_186 : decode cL_isTrain 186 = .ok (.aload_n 0, 1) := by decide +kernel
theorem dL_isTrain_187 : decode cL_isTrain 187 = .ok (.bipush 6, 2) := by decide +kernel
theorem dL_isTrain_189 : decode cL_isTrain 189 = .ok (.invokevirtual 8, 3) := by decide +kernel
theorem dL_isTrain_192 : decode cL_isTrain 192 = .ok (.iload 10, 2) := by decide +kernel
theorem dL_isTrain_194 : decode cL_isTrain 194 = .ok (.if_icmp .ne 7, 3) := by decide +kernel
theorem dL_isTrain_197 : decode cL_isTrain 197 = .ok (.iconst 1, 1) := by decide +kernel
theorem dL_isTrain_198 : decode cL_isTrain 198 = .ok (.goto 4, 3) := by decide +kernel
theorem dL_isTrain_201 : decode cL_isTrain 201 = .ok (.iconst 0, 1) := by decide +kernel
theorem dL_isTrain_202 : decode cL_isTrain 202 = .ok (.ireturn, 1) := by decide +kernel
theorem dL_isTrain_203 : decode cL_isTrain 203 = .ok (.iload 11, 2) := by decide +kernel
theorem dL_isTrain_205 : decode cL_isTrain 205 = .ok (.iload 10, 2) := by decide +kernel
theorem dL_isTrain_207 : decode cL_isTrain 207 = .ok (.if_icmp .ne 32, 3) := by decide +kernel
theorem dL_isTrain_210 : decode cL_isTrain 210 = .ok (.aload_n 0, 1) := by decide +kernel
theorem dL_isTrain_211 : decode cL_isTrain 211 = .ok (.iload 10, 2) := by decide +kernel
theorem dL_isTrain_213 : decode cL_isTrain 213 = .ok (.iconst 0, 1) := by decide +kernel
theorem dL_isTrain_214 : decode cL_isTrain 214 = .ok (.invokevirtual 63, 3) := by decide +kernel
theorem dL_isTrain_217 : decode cL_isTrain 217 = .ok (.iload_n 3, 1) := by decide +kernel
theorem dL_isTrain_218 : decode cL_isTrain 218 = .ok (.if_icmp .ne 21, 3) := by decide +kernel
theorem dL_isTrain_221 : decode cL_isTrain 221 = .ok (.aload_n 0, 1) := by decide +kernel
theorem dL_isTrain_222 : decode cL_isTrain 222 = .ok (.iload 10, 2) := by decide +kernel
theorem dL_isTrain_224 : decode cL_isTrain 224 = .ok (.iconst 1, 1) := by decide +kernel
theorem dL_isTrain_225 : decode cL_isTrain 225 = .ok (.invokevirtual 63, 3) := by decide +kernel
theorem dL_isTrain_228 : decode cL_isTrain 228 = .ok (.aload_n 0, 1) := by decide +kernel
theorem dL_isTrain_229 : decode cL_isTrain 229 = .ok (.iconst 0, 1) := by decide +kernel
theorem dL_isTrain_230 : decode cL_isTrain 230 = .ok (.invokevirtual 8, 3) := by decide +kernel
theorem dL_isTrain_233 : decode cL_isTrain 233 = .ok (.iload 4, 2) := by decide +kernel
theorem dL_isTrain_235 : decode cL_isTrain 235 = .ok (.iadd, 1) := by decide +kernel
theorem dL_isTrain_236 : decode cL_isTrain 236 = .ok (.if_icmp .eq 5, 3) := by decide +kernel
theorem dL_isTrain_239 : decode cL_isTrain 239 = .ok (.iconst 0, 1) := by decide +kernel
theorem dL_isTrain_240 : decode cL_isTrain 240 = .ok (.ireturn, 1) := by decide +kernel
theorem dL_isTrain_241 : decode cL_isTrain 241 = .ok (.iconst 0, 1) := by decide +kernel
theorem dL_isTrain_242 : decode cL_isTrain 242 = .ok (.istore 12, 2) := by decide +kernel
theorem dL_isTrain_244 : decode cL_isTrain 244 = .ok (.iconst 0, 1) := by decide +kernel
theorem dL_isTrain_245 : decode cL_isTrain 245 = .ok (.istore 13, 2) := by decide +kernel
theorem dL_isTrain_247 : decode cL_isTrain 247 = .ok (.iload 13, 2) := by decide +kernel
theorem dL_isTrain_249 : decode cL_isTrain 249 = .ok (.bipush 8, 2) := by decide +kernel
theorem dL_isTrain_251 : decode cL_isTrain 251 = .ok (.if_icmp .ge 87, 3) := by decide +kernel
theorem dL_isTrain_254 : decode cL_isTrain 254 = .ok (.iload 13, 2) := by decide +kernel
theorem dL_isTrain_256 : decode cL_isTrain 256 = .ok (.iload_n 3, 1) := by decide +kernel
theorem dL_isTrain_257 : decode cL_isTrain 257 = .ok (.if_icmp .ge 15, 3) := by decide +kernel
theorem dL_isTrain_260 : decode cL_isTrain 260 = .ok (.iload_n 1, 1) := by decide +kernel
theorem dL_isTrain_261 : decode cL_isTrain 261 = .ok (.iload_n 2, 1) := by decide +kernel
theorem dL_isTrain_262 : decode cL_isTrain 262 = .ok (.iload 13, 2) := by decide +kernel
theorem dL_isTrain_264 : decode cL_isTrain 264 = .ok (.imul, 1) := by decide +kernel
theorem dL_isTrain_265 : decode cL_isTrain 265 = .ok (.iadd, 1) := by decide +kernel
theorem dL_isTrain_266 : decode cL_isTrain 266 = .ok (.bipush 30, 2) := by decide +kernel
theorem dL_isTrain_268 : decode cL_isTrain 268 = .ok (.irem, 1) := by decide +kernel
theorem dL_isTrain_269 : decode cL_isTrain 269 = .ok (.goto 5, 3) := by decide +kernel
theorem dL_isTrain_272 : decode cL_isTrain 272 = .ok (.bipush (-6), 2) := by decide +kernel
theorem dL_isTrain_274 : decode cL_isTrain 274 = .ok (.istore 14, 2) := by decide +kernel
theorem dL_isTrain_276 : decode cL_isTrain 276 = .ok (.iload 12, 2) := by decide +kernel
theorem dL_isTrain_278 : decode cL_isTrain 278 = .ok (.iload 14, 2) := by decide +kernel
theorem dL_isTrain_280 : decode cL_isTrain 280 = .ok (.ifCond .ge 7, 3) := by decide +kernel
theorem dL_isTrain_283 : decode cL_isTrain 283 = .ok (.iconst 0, 1) := by decide +kernel
theorem dL_isTrain_284 : decode cL_isTrain 284 = .ok (.goto 10, 3) := by decide +kernel
theorem dL_isTrain_287 : decode cL_isTrain 287 = .ok (.aload_n 0, 1) := by decide +kernel
theorem dL_isTrain_288 : decode cL_isTrain 288 = .ok (.iload 14, 2) := by decide +kernel
theorem dL_isTrain_290 : decode cL_isTrain 290 = .ok (.iconst 0, 1) := by decide +kernel
theorem dL_isTrain_291 : decode cL_isTrain 291 = .ok (.invokevirtual 21, 3) := by decide +kernel
theorem dL_isTrain_294 : decode cL_isTrain 294 = .ok (.iadd, 1) := by decide +kernel
theorem dL_isTrain_295 : decode cL_isTrain 295 = .ok (.istore 12, 2) := by decide +kernel
theorem dL_isTrain_297 : decode cL_isTrain 297 = .ok (.aload_n 0, 1) := by decide +kernel
theorem dL_isTrain_298 : decode cL_isTrain 298 = .ok (.iload 10, 2) := by decide +kernel
theorem dL_isTrain_300 : decode cL_isTrain 300 = .ok (.iconst 2, 1) := by decide +kernel
theorem dL_isTrain_301 : decode cL_isTrain 301 = .ok (.iload 13, 2) := by decide +kernel
theorem dL_isTrain_303 : decode cL_isTrain 303 = .ok (.iadd, 1) := by decide +kernel
theorem dL_isTrain_304 : decode cL_isTrain 304 = .ok (.invokevirtual 63, 3) := by decide +kernel
theorem dL_isTrain_307 : decode cL_isTrain 307 = .ok (.iload 14, 2) := by decide +kernel
theorem dL_isTrain_309 : decode cL_isTrain 309 = .ok (.if_icmp .ne 21, 3) := by decide +kernel
theorem dL_isTrain_312 : decode cL_isTrain 312 = .ok (.iload 14, 2) := by decide +kernel
theorem dL_isTrain_314 : decode cL_isTrain 314 = .ok (.ifCond .lt 18, 3) := by decide +kernel
theorem dL_isTrain_317 : decode cL_isTrain 317 = .ok (.aload_n 0, 1) := by decide +kernel
theorem dL_isTrain_318 : decode cL_isTrain 318 = .ok (.iload 14, 2) := by decide +kernel
theorem dL_isTrain_320 : decode cL_isTrain 320 = .ok (.bipush 6, 2) := by decide +kernel
theorem dL_isTrain_322 : decode cL_isTrain 322 = .ok (.invokevirtual 21, 3) := by decide +kernel
theorem dL_isTrain_325 : decode cL_isTrain 325 = .ok (.iload 10, 2) := by decide +kernel
theorem dL_isTrain_327 : decode cL_isTrain 327 = .ok (.if_icmp .eq 5, 3) := by decide +kernel
theorem dL_isTrain_330 : decode cL_isTrain 330 = .ok (.iconst 0, 1) := by decide +kernel
theorem dL_isTrain_331 : decode cL_isTrain 331 = .ok (.ireturn, 1) := by decide +kernel
theorem dL_isTrain_332 : decode cL_isTrain 332 = .ok (.iinc 13 1, 3) := by decide +kernel
theorem dL_isTrain_335 : decode cL_isTrain 335 = .ok (.goto (-88), 3) := by decide +kernel
theorem dL_isTrain_338 : decode cL_isTrain 338 = .ok (.aload_n 0, 1) := by decide +kernel
theorem dL_isTrain_339 : decode cL_isTrain 339 = .ok (.iload 10, 2) := by decide +kernel
theorem dL_isTrain_341 : decode cL_isTrain 341 = .ok (.bipush 10, 2) := by decide +kernel
theorem dL_isTrain_343 : decode cL_isTrain 343 = .ok (.invokevirtual 63, 3) := by decide +kernel
theorem dL_isTrain_346 : decode cL_isTrain 346 = .ok (.iload 12, 2) := by decide +kernel
theorem dL_isTrain_348 : decode cL_isTrain 348 = .ok (.if_icmp .ne 7, 3) := by decide +kernel
theorem dL_isTrain_351 : decode cL_isTrain 351 = .ok (.iconst 1, 1) := by decide +kernel
theorem dL_isTrain_352 : decode cL_isTrain 352 = .ok (.goto 4, 3) := by decide +kernel
theorem dL_isTrain_355 : decode cL_isTrain 355 = .ok (.iconst 0, 1) := by decide +kernel
theorem dL_isTrain_356 : decode cL_isTrain 356 = .ok (.ireturn, 1) := by decide +kernel
theorem dL_isLeft_0 : decode cL_isLeft 0 = .ok (.aload_n 0, 1) := by decide +kernel
theorem dL_isLeft_1 : decode cL_isLeft 1 = .ok (.bipush 6, 2) := by decide +kernel
theorem dL_isLeft_3 : decode cL_isLeft 3 = .ok (.invokevirtual 8, 3) := by decide +kernel
theorem dL_isLeft_6 : decode cL_isLeft 6 = .ok (.istore_n 2, 1) := by decide +kernel
theorem dL_isLeft_7 : decode cL_isLeft 7 = .ok (.iload_n 1, 1) := by decide +kernel
theorem dL_isLeft_8 : decode cL_isLeft 8 = .ok (.iload_n 2, 1) := by decide +kernel
theorem dL_isLeft_9 : decode cL_isLeft 9 = .ok (.if_icmp .lt 18, 3) := by decide +kernel
theorem dL_isLeft_12 : decode cL_isLeft 12 = .ok (.aload_n 0, 1) := by decide +kernel
theorem dL_isLeft_13 : decode cL_isLeft 13 = .ok (.iload_n 1, 1) := by decide +kernel
theorem dL_isLeft_14 : decode cL_isLeft 14 = .ok (.invokevirtual 66, 3) := by decide +kernel
theorem dL_isLeft_17 : decode cL_isLeft 17 = .ok (.iconst (-1), 1) := by decide +kernel
theorem dL_isLeft_18 : decode cL_isLeft 18 = .ok (.if_icmp .ne 7, 3) := by decide +kernel
theorem dL_isLeft_21 : decode cL_isLeft 21 = .ok (.iconst 1, 1) := by decide +kernel
theorem dL_isLeft_22 : decode cL_isLeft 22 = .ok (.goto 4, 3) := by decide +kernel
theorem dL_isLeft_25 : decode cL_isLeft 25 = .ok (.iconst 0, 1) := by decide +kernel
theorem dL_isLeft_26 : decode cL_isLeft 26 = .ok (.ireturn, 1) := by decide +kernel
theorem dL_isLeft_27 : decode cL_isLeft 27 = .ok (.aload_n 0, 1) := by decide +kernel
theorem dL_isLeft_28 : decode cL_isLeft 28 = .ok (.iload_n 1, 1) := by decide +kernel
theorem dL_isLeft_29 : decode cL_isLeft 29 = .ok (.iconst 0, 1) := by decide +kernel
theorem dL_isLeft_30 : decode cL_isLeft 30 = .ok (.invokevirtual 63, 3) := by decide +kernel
theorem dL_isLeft_33 : decode cL_isLeft 33 = .ok (.istore_n 3, 1) := by decide +kernel
theorem dL_isLeft_34 : decode cL_isLeft 34 = .ok (.iload_n 3, 1) := by decide +kernel
theorem dL_isLeft_35 : decode cL_isLeft 35 = .ok (.aload_n 0, 1) := by decide +kernel
theorem dL_isLeft_36 : decode cL_isLeft 36 = .ok (.iconst 3, 1) := by decide +kernel
theorem dL_isLeft_37 : decode cL_isLeft 37 = .ok (.invokevirtual 8, 3) := by decide +kernel
theorem dL_isLeft_40 : decode cL_isLeft 40 = .ok (.if_icmp .ne 7, 3) := by decide +kernel
theorem dL_isLeft_43 : decode cL_isLeft 43 = .ok (.iconst 1, 1) := by decide +kernel
theorem dL_isLeft_44 : decode cL_isLeft 44 = .ok (.goto 4, 3) := by decide +kernel
theorem dL_isLeft_47 : decode cL_isLeft 47 = .ok (.iconst 0, 1) := by decide +kernel
theorem dL_isLeft_48 : decode cL_isLeft 48 = .ok (.istore 4, 2) := by decide +kernel
theorem dL_isLeft_50 : decode cL_isLeft 50 = .ok (.iconst 0, 1) := by decide +kernel
theorem dL_isLeft_51 : decode cL_isLeft 51 = .ok (.istore 5, 2) := by decide +kernel
theorem dL_isLeft_53 : decode cL_isLeft 53 = .ok (.iload 5, 2) := by decide +kernel
theorem dL_isLeft_55 : decode cL_isLeft 55 = .ok (.iload_n 3, 1) := by decide +kernel
theorem dL_isLeft_56 : decode cL_isLeft 56 = .ok (.if_icmp .ge 41, 3) := by decide +kernel
theorem dL_isLeft_59 : decode cL_isLeft 59 = .ok (.iload 4, 2) := by decide +kernel
theorem dL_isLeft_61 : decode cL_isLeft 61 = .ok (.ifCond .eq 36, 3) := by decide +kernel
theorem dL_isLeft_64 : decode cL_isLeft 64 = .ok (.aload_n 0, 1) := by decide +kernel
theorem dL_isLeft_65 : decode cL_isLeft 65 = .ok (.iload_n 1, 1) := by decide +kernel
theorem dL_isLeft_66 : decode cL_isLeft 66 = .ok (.iconst 2, 1) := by decide +kernel
theorem dL_isLeft_67 : decode cL_isLeft 67 = .ok (.iload 5, 2) := by decide +kernel
theorem dL_isLeft_69 : decode cL_isLeft 69 = .ok (.iadd, 1) := by decide +kernel
theorem dL_isLeft_70 : decode cL_isLeft 70 = .ok (.invokevirtual 63, 3) := by decide +kernel
theorem dL_isLeft_73 : decode cL_isLeft 73 = .ok (.aload_n 0, 1) := by decide +kernel
theorem dL_isLeft_74 : decode cL_isLeft 74 = .ok (.bipush (-6), 2) := by decide +kernel
theorem dL_isLeft_76 : decode cL_isLeft 76 = .ok (.iload 5, 2) := by decide +kernel
theorem dL_isLeft_78 : decode cL_isLeft 78 = .ok (.invokevirtual 18, 3) := by decide +kernel
theorem dL_isLeft_81 : decode cL_isLeft 81 = .ok (.if_icmp .ne 7, 3) := by decide +kernel
theorem dL_isLeft_84 : decode cL_isLeft 84 = .ok (.iconst 1, 1) := by decide +kernel
theorem dL_isLeft_85 : decode cL_isLeft 85 = .ok (.goto 4, 3) := by decide +kernel
theorem dL_isLeft_88 : decode cL_isLeft 88 = .ok (.iconst 0, 1) := by decide +kernel
theorem dL_isLeft_89 : decode cL_isLeft 89 = .ok (.istore 4, 2) := by decide +kernel
theorem dL_isLeft_91 : decode cL_isLeft 91 = .ok (.iinc 5 1, 3) := by decide +kernel
theorem dL_isLeft_94 : decode cL_isLeft 94 = .ok (.goto (-41), 3) := by decide +kernel
theorem dL_isLeft_97 : decode cL_isLeft 97 = .ok (.aload_n 0, 1) := by decide +kernel
theorem dL_isLeft_98 : decode cL_isLeft 98 = .ok (.iconst 0, 1) := by decide +kernel
theorem dL_isLeft_99 : decode cL_isLeft 99 = .ok (.invokevirtual 8, 3) := by decide +kernel
theorem dL_isLeft_102 : decode cL_isLeft 102 = .ok (.aload_n 0, 1) := by decide +kernel
theorem dL_isLeft_103 : decode cL_isLeft 103 = .ok (.iload_n 1, 1) := by decide +kernel
theorem dL_isLeft_104 : decode cL_isLeft 104 = .ok (.iconst 1, 1) := by decide +kernel
theorem dL_isLeft_105 : decode cL_isLeft 105 = .ok (.invokevirtual 63, 3) := by decide +kernel
theorem dL_isLeft_108 : decode cL_isLeft 108 = .ok (.if_icmp .le 18, 3) := by decide +kernel
theorem dL_isLeft_111 : decode cL_isLeft 111 = .ok (.aload_n 0, 1) := by decide +kernel
theorem dL_isLeft_112 : decode cL_isLeft 112 = .ok (.iconst 0, 1) := by decide +kernel
theorem dL_isLeft_113 : decode cL_isLeft 113 = .ok (.invokevirtual 8, 3) := by decide +kernel
theorem dL_isLeft_116 : decode cL_isLeft 116 = .ok (.aload_n 0, 1) := by decide +kernel
theorem dL_isLeft_117 : decode cL_isLeft 117 = .ok (.iload_n 1, 1) := by decide +kernel
theorem dL_isLeft_118 : decode cL_isLeft 118 = .ok (.iconst 1, 1) := by decide +kernel
theorem dL_isLeft_119 : decode cL_isLeft 119 = .ok (.invokevirtual 63, 3) := by decide +kernel
theorem dL_isLeft_122 : decode cL_isLeft 122 = .ok (.isub, 1) := by decide +kernel
theorem dL_isLeft_123 : decode cL_isLeft 123 = .ok (.goto 4, 3) := by decide +kernel
theorem dL_isLeft_126 : decode cL_isLeft 126 = .ok (.iconst 0, 1) := by decide +kernel
theorem dL_isLeft_127 : decode cL_isLeft 127 = .ok (.istore 5, 2) := by decide +kernel
theorem dL_isLeft_129 : decode cL_isLeft 129 = .ok (.aload_n 0, 1) := by decide +kernel
theorem dL_isLeft_130 : decode cL_isLeft 130 = .ok (.bipush 12, 2) := by decide +kernel
theorem dL_isLeft_132 : decode cL_isLeft 132 = .ok (.invokevirtual 8, 3) := by decide +kernel
theorem dL_isLeft_135 : decode cL_isLeft 135 = .ok (.istore 6, 2) := by decide +kernel
theorem dL_isLeft_137 : decode cL_isLeft 137 = .ok (.aload_n 0, 1) := by decide +kernel
theorem dL_isLeft_138 : decode cL_isLeft 138 = .ok (.bipush 7, 2) := by decide +kernel
theorem dL_isLeft_140 : decode cL_isLeft 140 = .ok (.invokevirtual 8, 3) := by decide +kernel
theorem dL_isLeft_143 : decode cL_isLeft 143 = .ok (.istore 7, 2) := by decide +kernel
theorem dL_isLeft_145 : decode cL_isLeft 145 = .ok (.aload_n 0, 1) := by decide +kernel
theorem dL_isLeft_146 : decode cL_isLeft 146 = .ok (.iload_n 1, 1) := by decide +kernel
theorem dL_isLeft_147 : decode cL_isLeft 147 = .ok (.iconst 2, 1) := by decide +kernel
theorem dL_isLeft_148 : decode cL_isLeft 148 = .ok (.invokevirtual 63, 3) := by decide +kernel
theorem dL_isLeft_151 : decode cL_isLeft 151 = .ok (.istore 8, 2) := by decide +kernel
theorem dL_isLeft_153 : decode cL_isLeft 153 = .ok (.iload 4, 2) := by decide +kernel
theorem dL_isLeft_155 : decode cL_isLeft 155 = .ok (.ifCond .eq 34, 3) := by decide +kernel
theorem dL_isLeft_158 : decode cL_isLeft 158 = .ok (.aload_n 0, 1) := by decide +kernel
theorem dL_isLeft_159 : decode cL_isLeft 159 = .ok (.iload_n 1, 1) := by decide +kernel
theorem dL_isLeft_160 : decode cL_isLeft 160 = .ok (.invokevirtual 69, 3) := by decide +kernel
theorem dL_isLeft_163 : decode cL_isLeft 163 = .ok (.ifCond .ne 24, 3) := by decide +kernel
theorem dL_isLeft_166 : decode cL_isLeft 166 = .ok (.aload_n 0, 1) := by decide +kernel
theorem dL_isLeft_167 : decode cL_isLeft 167 = .ok (.iload_n 1, 1) := by decide +kernel
theorem dL_isLeft_168 : decode cL_isLeft 168 = .ok (.invokevirtual 72, 3) := by decide +kernel
theorem dL_isLeft_171 : decode cL_isLeft 171 = .ok (.ifCond .ne 16, 3) := by decide +kernel
theorem dL_isLeft_174 : decode cL_isLeft 174 = .ok (.aload_n 0, 1) := by decide +kernel
theorem dL_isLeft_175 : decode cL_isLeft 175 = .ok (.iload_n 1, 1) := by decide +kernel
theorem dL_isLeft_176 : decode cL_isLeft 176 = .ok (.invokevirtual 75, 3) := by decide +kernel
theorem dL_isLeft_179 : decode cL_isLeft 179 = .ok (.aload_n 0, 1) := by decide +kernel
theorem dL_isLeft_180 : decode cL_isLeft 180 = .ok (.iconst 0, 1) := by decide +kernel
theorem dL_isLeft_181 : decode cL_isLeft 181 = .ok (.invokevirtual 8, 3) := by decide +kernel
theorem dL_isLeft_184 : decode cL_isLeft 184 = .ok (.if_icmp .eq 5, 3) := by decide +kernel
theorem dL_isLeft_187 : decode cL_isLeft 187 = .ok (.iconst 0, 1) := by decide +kernel
theorem dL_isLeft_188 : decode cL_isLeft 188 = .ok (.ireturn, 1) := by decide +kernel
theorem dL_isLeft_189 : decode cL_isLeft 189 = .ok (.aload_n 0, 1) := by decide +kernel
theorem dL_isLeft_190 : decode cL_isLeft 190 = .ok (.iload_n 1, 1) := by decide +kernel
theorem dL_isLeft_191 : decode cL_isLeft 191 = .ok (.invokevirtual 66, 3) := by decide +kernel
theorem dL_isLeft_194 : decode cL_isLeft 194 = .ok (.istore 9, 2) := by decide +kernel
theorem dL_isLeft_196 : decode cL_isLeft 196 = .ok (.iload 4, 2) := by decide +kernel
theorem dL_isLeft_198 : decode cL_isLeft 198 = .ok (.ifCond .ne 37, 3) := by decide +kernel
theorem dL_isLeft_201 : decode cL_isLeft 201 = .ok (.iload 9, 2) := by decide +kernel
theorem dL_isLeft_203 : decode cL_isLeft 203 = .ok (.bipush (-5), 2) := by decide +kernel
theorem dL_isLeft_205 : decode cL_isLeft 205 = .ok (.if_icmp .ne 28, 3) := by decide +kernel
theorem dL_isLeft_208 : decode cL_isLeft 208 = .ok (.aload_n 0, 1) := by decide +kernel
theorem dL_isLeft_209 : decode cL_isLeft 209 = .ok (.bipush 6, 2) := by decide +kernel
theorem dL_isLeft_211 : decode cL_isLeft 211 = .ok (.invokevirtual 8, 3) := by decide +kernel
theorem dL_isLeft_214 : decode cL_isLeft 214 = .ok (.iload_n 2, 1) := by decide +kernel
theorem dL_isLeft_215 : decode cL_isLeft 215 = .ok (.if_icmp .ne 18, 3) := by decide +kernel
theorem dL_isLeft_218 : decode cL_isLeft 218 = .ok (.aload_n 0, 1) := by decide +kernel
theorem dL_isLeft_219 : decode cL_isLeft 219 = .ok (.bipush 7, 2) := by decide +kernel
theorem dL_isLeft_221 : decode cL_isLeft 221 = .ok (.invokevirtual 8, 3) := by decide +kernel
theorem dL_isLeft_224 : decode cL_isLeft 224 = .ok (.iload 7, 2) := by decide +kernel
theorem dL_isLeft_226 : decode cL_isLeft 226 = .ok (.if_icmp .ne 7, 3) := by decide +kernel
theorem dL_isLeft_229 : decode cL_isLeft 229 = .ok (.iconst 1, 1) := by decide +kernel
theorem dL_isLeft_230 : decode cL_isLeft 230 = .ok (.goto 4, 3) := by decide +kernel
theorem dL_isLeft_233 : decode cL_isLeft 233 = .ok (.iconst 0, 1) := by decide +kernel
theorem dL_isLeft_234 : decode cL_isLeft 234 = .ok (.ireturn, 1) := by decide +kernel
theorem dL_isLeft_235 : decode cL_isLeft 235 = .ok (.iload 9, 2) := by decide +kernel
theorem dL_isLeft_237 : decode cL_isLeft 237 = .ok (.iload 5, 2) := by decide +kernel
theorem dL_isLeft_239 : decode cL_isLeft 239 = .ok (.if_icmp .ne 76, 3) := by decide +kernel
theorem dL_isLeft_242 : decode cL_isLeft 242 = .ok (.aload_n 0, 1) := by decide +kernel
theorem dL_isLeft_243 : decode cL_isLeft 243 = .ok (.bipush 12, 2) := by decide +kernel
theorem dL_isLeft_245 : decode cL_isLeft 245 = .ok (.invokevirtual 8, 3) := by decide +kernel
theorem dL_isLeft_248 : decode cL_isLeft 248 = .ok (.iload 6, 2) := by decide +kernel
theorem dL_isLeft_250 : decode cL_isLeft 250 = .ok (.iload 5, 2) := by decide +kernel
theorem dL_isLeft_252 : decode cL_isLeft 252 = .ok (.aload_n 0, 1) := by decide +kernel
theorem dL_isLeft_253 : decode cL_isLeft 253 = .ok (.bipush 20, 2) := by decide +kernel
theorem dL_isLeft_255 : decode cL_isLeft 255 = .ok (.invokevirtual 8, 3) := by decide +kernel
theorem dL_isLeft_258 : decode cL_isLeft 258 = .ok (.imul, 1) := by decide +kernel
theorem dL_isLeft_259 : decode cL_isLeft 259 = .ok (.iadd, 1) := by decide +kernel
theorem dL_isLeft_260 : decode cL_isLeft 260 = .ok (.if_icmp .ne 55, 3) := by decide +kernel
theorem dL_isLeft_263 : decode cL_isLeft 263 = .ok (.aload_n 0, 1) := by decide +kernel
theorem dL_isLeft_264 : decode cL_isLeft 264 = .ok (.bipush 6, 2) := by decide +kernel
theorem dL_isLeft_266 : decode cL_isLeft 266 = .ok (.invokevirtual 8, 3) := by decide +kernel
theorem dL_isLeft_269 : decode cL_isLeft 269 = .ok (.iload_n 2, 1) := by decide +kernel
theorem dL_isLeft_270 : decode cL_isLeft 270 = .ok (.iconst 1, 1) := by decide +kernel
theorem dL_isLeft_271 : decode cL_isLeft 271 = .ok (.isub, 1) := by decide +kernel
theorem dL_isLeft_272 : decode cL_isLeft 272 = .ok (.if_icmp .ne 43, 3) := by decide +kernel
theorem dL_isLeft_275 : decode cL_isLeft 275 = .ok (.aload_n 0, 1) := by decide +kernel
theorem dL_isLeft_276 : decode cL_isLeft 276 = .ok (.bipush 7, 2) := by decide +kernel
theorem dL_isLeft_278 : decode cL_isLeft 278 = .ok (.invokevirtual 8, 3) := by decide +kernel
theorem dL_isLeft_281 : decode cL_isLeft 281 = .ok (.iload 7, 2) := by decide +kernel
theorem dL_isLeft_283 : decode cL_isLeft 283 = .ok (.iconst 1, 1) := by decide +kernel
theorem dL_isLeft_284 : decode cL_isLeft 284 = .ok (.iadd, 1) := by decide +kernel
theorem dL_isLeft_285 : decode cL_isLeft 285 = .ok (.if_icmp .ne 30, 3) := by decide +kernel
theorem dL_isLeft_288 : decode cL_isLeft 288 = .ok (.aload_n 0, 1) := by decide +kernel
theorem dL_isLeft_289 : decode cL_isLeft 289 = .ok (.iconst 3, 1) := by decide +kernel
theorem dL_isLeft_290 : decode cL_isLeft 290 = .ok (.invokevirtual 8, 3) := by decide +kernel
theorem dL_isLeft_293 : decode cL_isLeft 293 = .ok (.ifCond .ne 22, 3) := by decide +kernel
theorem dL_isLeft_296 : decode cL_isLeft 296 = .ok (.aload_n 0, 1) := by decide +kernel
theorem dL_isLeft_297 : decode cL_isLeft 297 = .ok (.iload 8, 2) := by decide +kernel
theorem dL_isLeft_299 : decode cL_isLeft 299 = .ok (.iconst 4, 1) := by decide +kernel
theorem dL_isLeft_300 : decode cL_isLeft 300 = .ok (.invokevirtual 21, 3) := by decide +kernel
theorem dL_isLeft_303 : decode cL_isLeft 303 = .ok (.aload_n 0, 1) := by decide +kernel
theorem dL_isLeft_304 : decode cL_isLeft 304 = .ok (.iconst 0, 1) := by decide +kernel
theorem dL_isLeft_305 : decode cL_isLeft 305 = .ok (.invokevirtual 8, 3) := by decide +kernel
theorem dL_isLeft_308 : decode cL_isLeft 308 = .ok (.if_icmp .ne 7, 3) := by decide +kernel
theorem dL_isLeft_311 : decode cL_isLeft 311 = .ok (.iconst 1, 1) := by decide +kernel
theorem dL_isLeft_312 : decode cL_isLeft 312 = .ok (.goto 4, 3) := by decide +kernel
theorem dL_isLeft_315 : decode cL_isLeft 315 = .ok (.iconst 0, 1) := by decide +kernel
theorem dL_isLeft_316 : decode cL_isLeft 316 = .ok (.ireturn, 1) := by decide +kernel
theorem dL_isPassed_0 : decode cL_isPassed 0 = .ok (.aload_n 0, 1) := by decide +kernel
theorem dL_isPassed_1 : decode cL_isPassed 1 = .ok (.iconst 0, 1) := by decide +kernel
theorem dL_isPassed_2 : decode cL_isPassed 2 = .ok (.invokevirtual 8, 3) := by decide +kernel
theorem dL_isPassed_5 : decode cL_isPassed 5 = .ok (.istore_n 2, 1) := by decide +kernel
theorem dL_isPassed_6 : decode cL_isPassed 6 = .ok (.aload_n 0, 1) := by decide +kernel
theorem dL_isPassed_7 : decode cL_isPassed 7 = .ok (.iconst 5, 1) := by decide +kernel
theorem dL_isPassed_8 : decode cL_isPassed 8 = .ok (.invokevirtual 37, 3) := by decide +kernel
theorem dL_isPassed_11 : decode cL_isPassed 11 = .ok (.istore_n 3, 1) := by decide +kernel
theorem dL_isPassed_12 : decode cL_isPassed 12 = .ok (.aload_n 0, 1) := by decide +kernel
theorem dL_isPassed_13 : decode cL_isPassed 13 = .ok (.iload_n 1, 1) := by decide +kernel
theorem dL_isPassed_14 : decode cL_isPassed 14 = .ok (.invokevirtual 78, 3) := by decide +kernel
theorem dL_isPassed_17 : decode cL_isPassed 17 = .ok (.iload_n 2, 1) := by decide +kernel
theorem dL_isPassed_18 : decode cL_isPassed 18 = .ok (.iload_n 1, 1) := by decide +kernel
theorem dL_isPassed_19 : decode cL_isPassed 19 = .ok (.iadd, 1) := by decide +kernel
theorem dL_isPassed_20 : decode cL_isPassed 20 = .ok (.if_icmp .ne 29, 3) := by decide +kernel
theorem dL_isPassed_23 : decode cL_isPassed 23 = .ok (.aload_n 0, 1) := by decide +kernel
theorem dL_isPassed_24 : decode cL_isPassed 24 = .ok (.iconst 5, 1) := by decide +kernel
theorem dL_isPassed_25 : decode cL_isPassed 25 = .ok (.invokevirtual 37, 3) := by decide +kernel
theorem dL_isPassed_28 : decode cL_isPassed 28 = .ok (.iload_n 3, 1) := by decide +kernel
theorem dL_isPassed_29 : decode cL_isPassed 29 = .ok (.if_icmp .lt 20, 3) := by decide +kernel
theorem dL_isPassed_32 : decode cL_isPassed 32 = .ok (.aload_n 0, 1) := by decide +kernel
theorem dL_isPassed_33 : decode cL_isPassed 33 = .ok (.iconst 5, 1) := by decide +kernel
theorem dL_isPassed_34 : decode cL_isPassed 34 = .ok (.invokevirtual 37, 3) := by decide +kernel
theorem dL_isPassed_37 : decode cL_isPassed 37 = .ok (.aload_n 0, 1) := by decide +kernel
theorem dL_isPassed_38 : decode cL_isPassed 38 = .ok (.iconst 0, 1) := by decide +kernel
theorem dL_isPassed_39 : decode cL_isPassed 39 = .ok (.invokevirtual 8, 3) := by decide +kernel
theorem dL_isPassed_42 : decode cL_isPassed 42 = .ok (.if_icmp .lt 7, 3) := by decide +kernel
theorem dL_isPassed_45 : decode cL_isPassed 45 = .ok (.iconst 1, 1) := by decide +kernel
theorem dL_isPassed_46 : decode cL_isPassed 46 = .ok (.goto 4, 3) := by decide +kernel
theorem dL_isPassed_49 : decode cL_isPassed 49 = .ok (.iconst 0, 1) := by decide +kernel
theorem dL_isPassed_50 : decode cL_isPassed 50 = .ok (.istore 4, 2) := by decide +kernel
theorem dL_isPassed_52 : decode cL_isPassed 52 = .ok (.iload 4, 2) := by decide +kernel
theorem dL_isPassed_54 : decode cL_isPassed 54 = .ok (.ifCond .eq 25, 3) := by decide +kernel
theorem dL_isPassed_57 : decode cL_isPassed 57 = .ok (.iload_n 3, 1) := by decide +kernel
theorem dL_isPassed_58 : decode cL_isPassed 58 = .ok (.aload_n 0, 1) := by decide +kernel
theorem dL_isPassed_59 : decode cL_isPassed 59 = .ok (.iconst 0, 1) := by decide +kernel
theorem dL_isPassed_60 : decode cL_isPassed 60 = .ok (.invokevirtual 8, 3) := by decide +kernel
theorem dL_isPassed_63 : decode cL_isPassed 63 = .ok (.if_icmp .lt 12, 3) := by decide +kernel
theorem dL_isPassed_66 : decode cL_isPassed 66 = .ok (.aload_n 0, 1) := by decide +kernel
theorem dL_isPassed_67 : decode cL_isPassed 67 = .ok (.iconst 5, 1) := by decide +kernel
theorem dL_isPassed_68 : decode cL_isPassed 68 = .ok (.invokevirtual 37, 3) := by decide +kernel
theorem dL_isPassed_71 : decode cL_isPassed 71 = .ok (.iload_n 3, 1) := by decide +kernel
theorem dL_isPassed_72 : decode cL_isPassed 72 = .ok (.if_icmp .ne 7, 3) := by decide +kernel
theorem dL_isPassed_75 : decode cL_isPassed 75 = .ok (.iconst 1, 1) := by decide +kernel
theorem dL_isPassed_76 : decode cL_isPassed 76 = .ok (.goto 4, 3) := by decide +kernel
theorem dL_isPassed_79 : decode cL_isPassed 79 = .ok (.iconst 0, 1) := by decide +kernel
theorem dL_isPassed_80 : decode cL_isPassed 80 = .ok (.ireturn, 1) := by decide +kernel
theorem dL_isAct_0 : decode cL_isAct 0 = .ok (.aload_n 1, 1) := by decide +kernel
theorem dL_isAct_1 : decode cL_isAct 1 = .ok (.iload_n 2, 1) := by decide +kernel
theorem dL_isAct_2 : decode cL_isAct 2 = .ok (.iconst 1, 1) := by decide +kernel
theorem dL_isAct_3 : decode cL_isAct 3 = .ok (.iadd, 1) := by decide +kernel
theorem dL_isAct_4 : decode cL_isAct 4 = .ok (.aload_n 0, 1) := by decide +kernel
theorem dL_isAct_5 : decode cL_isAct 5 = .ok (.iconst 1, 1) := by decide +kernel
theorem dL_isAct_6 : decode cL_isAct 6 = .ok (.invokevirtual 8, 3) := by decide +kernel
theorem dL_isAct_9 : decode cL_isAct 9 = .ok (.aload_n 1, 1) := by decide +kernel
theorem dL_isAct_10 : decode cL_isAct 10 = .ok (.iload_n 2, 1) := by decide +kernel
theorem dL_isAct_11 : decode cL_isAct 11 = .ok (.iconst 2, 1) := by decide +kernel
theorem dL_isAct_12 : decode cL_isAct 12 = .ok (.iadd, 1) := by decide +kernel
theorem dL_isAct_13 : decode cL_isAct 13 = .ok (.bipush 9, 2) := by decide +kernel
theorem dL_isAct_15 : decode cL_isAct 15 = .ok (.invokestatic 81, 3) := by decide +kernel
theorem dL_isAct_18 : decode cL_isAct 18 = .ok (.ifCond .ne 7, 3) := by decide +kernel
theorem dL_isAct_21 : decode cL_isAct 21 = .ok (.iconst 1, 1) := by decide +kernel
theorem dL_isAct_22 : decode cL_isAct 22 = .ok (.goto 4, 3) := by decide +kernel
theorem dL_isAct_25 : decode cL_isAct 25 = .ok (.iconst 0, 1) := by decide +kernel
theorem dL_isAct_26 : decode cL_isAct 26 = .ok (.iadd, 1) := by decide +kernel
theorem dL_isAct_27 : decode cL_isAct 27 = .ok (.invokestatic 81, 3) := by decide +kernel
theorem dL_isAct_30 : decode cL_isAct 30 = .ok (.istore_n 3, 1) := by decide +kernel
theorem dL_isAct_31 : decode cL_isAct 31 = .ok (.iconst 1, 1) := by decide +kernel
theorem dL_isAct_32 : decode cL_isAct 32 = .ok (.aload_n 1, 1) := by decide +kernel
theorem dL_isAct_33 : decode cL_isAct 33 = .ok (.iload_n 2, 1) := by decide +kernel
theorem dL_isAct_34 : decode cL_isAct 34 = .ok (.iconst 3, 1) := by decide +kernel
theorem dL_isAct_35 : decode cL_isAct 35 = .ok (.iadd, 1) := by decide +kernel
theorem dL_isAct_36 : decode cL_isAct 36 = .ok (.aload_n 1, 1) := by decide +kernel
theorem dL_isAct_37 : decode cL_isAct 37 = .ok (.iload_n 2, 1) := by decide +kernel
theorem dL_isAct_38 : decode cL_isAct 38 = .ok (.iconst 4, 1) := by decide +kernel
theorem dL_isAct_39 : decode cL_isAct 39 = .ok (.iadd, 1) := by decide +kernel
theorem dL_isAct_40 : decode cL_isAct 40 = .ok (.iconst 3, 1) := by decide +kernel
theorem dL_isAct_41 : decode cL_isAct 41 = .ok (.invokestatic 81, 3) := by decide +kernel
theorem dL_isAct_44 : decode cL_isAct 44 = .ok (.ifCond .ne 8, 3) := by decide +kernel
theorem dL_isAct_47 : decode cL_isAct 47 = .ok (.bipush 6, 2) := by decide +kernel
theorem dL_isAct_49 : decode cL_isAct 49 = .ok (.goto 4, 3) := by decide +kernel
theorem dL_isAct_52 : decode cL_isAct 52 = .ok (.iconst 3, 1) := by decide +kernel
theorem dL_isAct_53 : decode cL_isAct 53 = .ok (.invokestatic 81, 3) := by decide +kernel
theorem dL_isAct_56 : decode cL_isAct 56 = .ok (.iadd, 1) := by decide +kernel
theorem dL_isAct_57 : decode cL_isAct 57 = .ok (.istore 4, 2) := by decide +kernel
theorem dL_isAct_59 : decode cL_isAct 59 = .ok (.aload_n 1, 1) := by decide +kernel
theorem dL_isAct_60 : decode cL_isAct 60 = .ok (.iload_n 2, 1) := by decide +kernel
theorem dL_isAct_61 : decode cL_isAct 61 = .ok (.bipush 14, 2) := by decide +kernel
theorem dL_isAct_63 : decode cL_isAct 63 = .ok (.invokestatic 81, 3) := by decide +kernel
theorem dL_isAct_66 : decode cL_isAct 66 = .ok (.tableswitch 284 0 12 #[66, 66, 66, 66, 74, 74, 74, 109, 114, 141, 201, 201, 221], 66) := by decide +kernel
theorem dL_isAct_132 : decode cL_isAct 132 = .ok (.aload_n 0, 1) := by decide +kernel
theorem dL_isAct_133 : decode cL_isAct 133 = .ok (.iload_n 3, 1) := by decide +kernel
theorem dL_isAct_134 : decode cL_isAct 134 = .ok (.iload 4, 2) := by decide +kernel
theorem dL_isAct_136 : decode cL_isAct 136 = .ok (.invokestatic 85, 3) := by decide +kernel
theorem dL_isAct_139 : decode cL_isAct 139 = .ok (.ireturn, 1) := by decide +kernel
theorem dL_isAct_140 : decode cL_isAct 140 = .ok (.aload_n 0, 1) := by decide +kernel
theorem dL_isAct_141 : decode cL_isAct 141 = .ok (.iload_n 3, 1) := by decide +kernel
theorem dL_isAct_142 : decode cL_isAct 142 = .ok (.aload_n 1, 1) := by decide +kernel
theorem dL_isAct_143 : decode cL_isAct 143 = .ok (.iload_n 2, 1) := by decide +kernel
theorem dL_isAct_144 : decode cL_isAct 144 = .ok (.iconst 2, 1) := by decide +kernel
theorem dL_isAct_145 : decode cL_isAct 145 = .ok (.iadd, 1) := by decide +kernel
theorem dL_isAct_146 : decode cL_isAct 146 = .ok (.iconst 2, 1) := by decide +kernel
theorem dL_isAct_147 : decode cL_isAct 147 = .ok (.invokestatic 81, 3) := by decide +kernel
theorem dL_isAct_150 : decode cL_isAct 150 = .ok (.ifCond .ne 19, 3) := by decide +kernel
theorem dL_isAct_153 : decode cL_isAct 153 = .ok (.aload_n 0, 1) := by decide +kernel
theorem dL_isAct_154 : decode cL_isAct 154 = .ok (.iconst 3, 1) := by decide +kernel
theorem dL_isAct_155 : decode cL_isAct 155 = .ok (.invokevirtual 8, 3) := by decide +kernel
theorem dL_isAct_158 : decode cL_isAct 158 = .ok (.ifCond .le 11, 3) := by decide +kernel
theorem dL_isAct_161 : decode cL_isAct 161 = .ok (.aload_n 0, 1) := by decide +kernel
theorem dL_isAct_162 : decode cL_isAct 162 = .ok (.iconst 3, 1) := by decide +kernel
theorem dL_isAct_163 : decode cL_isAct 163 = .ok (.invokevirtual 8, 3) := by decide +kernel
theorem dL_isAct_166 : decode cL_isAct 166 = .ok (.goto 5, 3) := by decide +kernel
theorem dL_isAct_169 : decode cL_isAct 169 = .ok (.iload 4, 2) := by decide +kernel
theorem dL_isAct_171 : decode cL_isAct 171 = .ok (.invokestatic 89, 3) := by decide +kernel
theorem dL_isAct_174 : decode cL_isAct 174 = .ok (.ireturn, 1) := by decide +kernel
theorem dL_isAct_175 : decode cL_isAct 175 = .ok (.aload_n 0, 1) := by decide +kernel
theorem dL_isAct_176 : decode cL_isAct 176 = .ok (.invokestatic 92, 3) := by decide +kernel
theorem dL_isAct_179 : decode cL_isAct 179 = .ok (.ireturn, 1) := by decide +kernel
theorem dL_isAct_180 : decode cL_isAct 180 = .ok (.aload_n 0, 1) := by decide +kernel
theorem dL_isAct_181 : decode cL_isAct 181 = .ok (.aload_n 1, 1) := by decide +kernel
theorem dL_isAct_182 : decode cL_isAct 182 = .ok (.iload_n 2, 1) := by decide +kernel
theorem dL_isAct_183 : decode cL_isAct 183 = .ok (.iconst 1, 1) := by decide +kernel
theorem dL_isAct_184 : decode cL_isAct 184 = .ok (.iadd, 1) := by decide +kernel
theorem dL_isAct_185 : decode cL_isAct 185 = .ok (.aload_n 0, 1) := by decide +kernel
theorem dL_isAct_186 : decode cL_isAct 186 = .ok (.iconst 1, 1) := by decide +kernel
theorem dL_isAct_187 : decode cL_isAct 187 = .ok (.invokevirtual 8, 3) := by decide +kernel
theorem dL_isAct_190 : decode cL_isAct 190 = .ok (.invokestatic 81, 3) := by decide +kernel
theorem dL_isAct_193 : decode cL_isAct 193 = .ok (.iconst 1, 1) := by decide +kernel
theorem dL_isAct_194 : decode cL_isAct 194 = .ok (.aload_n 1, 1) := by decide +kernel
theorem dL_isAct_195 : decode cL_isAct 195 = .ok (.iload_n 2, 1) := by decide +kernel
theorem dL_isAct_196 : decode cL_isAct 196 = .ok (.iconst 3, 1) := by decide +kernel
theorem dL_isAct_197 : decode cL_isAct 197 = .ok (.iadd, 1) := by decide +kernel
theorem dL_isAct_198 : decode cL_isAct 198 = .ok (.iconst 4, 1) := by decide +kernel
theorem dL_isAct_199 : decode cL_isAct 199 = .ok (.invokestatic 81, 3) := by decide +kernel
theorem dL_isAct_202 : decode cL_isAct 202 = .ok (.iadd, 1) := by decide +kernel
theorem dL_isAct_203 : decode cL_isAct 203 = .ok (.invokestatic 96, 3) := by decide +kernel
theorem dL_isAct_206 : decode cL_isAct 206 = .ok (.ireturn, 1) := by decide +kernel
theorem dL_isAct_207 : decode cL_isAct 207 = .ok (.aload_n 0, 1) := by decide +kernel
theorem dL_isAct_208 : decode cL_isAct 208 = .ok (.aload_n 1, 1) := by decide +kernel
theorem dL_isAct_209 : decode cL_isAct 209 = .ok (.iload_n 2, 1) := by decide +kernel
theorem dL_isAct_210 : decode cL_isAct 210 = .ok (.iconst 2, 1) := by decide +kernel
theorem dL_isAct_211 : decode cL_isAct 211 = .ok (.iadd, 1) := by decide +kernel
theorem dL_isAct_212 : decode cL_isAct 212 = .ok (.aload_n 1, 1) := by decide +kernel
theorem dL_isAct_213 : decode cL_isAct 213 = .ok (.iload_n 2, 1) := by decide +kernel
theorem dL_isAct_214 : decode cL_isAct 214 = .ok (.iconst 5, 1) := by decide +kernel
theorem dL_isAct_215 : decode cL_isAct 215 = .ok (.iadd, 1) := by decide +kernel
theorem dL_isAct_216 : decode cL_isAct 216 = .ok (.iconst 4, 1) := by decide +kernel
theorem dL_isAct_217 : decode cL_isAct 217 = .ok (.invokestatic 81, 3) := by decide +kernel
theorem dL_isAct_220 : decode cL_isAct 220 = .ok (.ifCond .ne 8, 3) := by decide +kernel
theorem dL_isAct_223 : decode cL_isAct 223 = .ok (.bipush 30, 2) := by decide +kernel
theorem dL_isAct_225 : decode cL_isAct 225 = .ok (.goto 5, 3) := by decide +kernel
theorem dL_isAct_228 : decode cL_isAct 228 = .ok (.bipush 12, 2) := by decide +kernel
theorem dL_isAct_230 : decode cL_isAct 230 = .ok (.invokestatic 81, 3) := by decide +kernel
theorem dL_isAct_233 : decode cL_isAct 233 = .ok (.iconst 1, 1) := by decide +kernel
theorem dL_isAct_234 : decode cL_isAct 234 = .ok (.aload_n 1, 1) := by decide +kernel
theorem dL_isAct_235 : decode cL_isAct 235 = .ok (.iload_n 2, 1) := by decide +kernel
theorem dL_isAct_236 : decode cL_isAct 236 = .ok (.iconst 3, 1) := by decide +kernel
theorem dL_isAct_237 : decode cL_isAct 237 = .ok (.iadd, 1) := by decide +kernel
theorem dL_isAct_238 : decode cL_isAct 238 = .ok (.iconst 3, 1) := by decide +kernel
theorem dL_isAct_239 : decode cL_isAct 239 = .ok (.invokestatic 81, 3) := by decide +kernel
theorem dL_isAct_242 : decode cL_isAct 242 = .ok (.iadd, 1) := by decide +kernel
theorem dL_isAct_243 : decode cL_isAct 243 = .ok (.iconst 1, 1) := by decide +kernel
theorem dL_isAct_244 : decode cL_isAct 244 = .ok (.aload_n 1, 1) := by decide +kernel
theorem dL_isAct_245 : decode cL_isAct 245 = .ok (.iload_n 2, 1) := by decide +kernel
theorem dL_isAct_246 : decode cL_isAct 246 = .ok (.iconst 4, 1) := by decide +kernel
theorem dL_isAct_247 : decode cL_isAct 247 = .ok (.iadd, 1) := by decide +kernel
theorem dL_isAct_248 : decode cL_isAct 248 = .ok (.iconst 4, 1) := by decide +kernel
theorem dL_isAct_249 : decode cL_isAct 249 = .ok (.invokestatic 81, 3) := by decide +kernel
theorem dL_isAct_252 : decode cL_isAct 252 = .ok (.iadd, 1) := by decide +kernel
theorem dL_isAct_253 : decode cL_isAct 253 = .ok (.aload_n 1, 1) := by decide +kernel
theorem dL_isAct_254 : decode cL_isAct 254 = .ok (.iload_n 2, 1) := by decide +kernel
theorem dL_isAct_255 : decode cL_isAct 255 = .ok (.iconst 5, 1) := by decide +kernel
theorem dL_isAct_256 : decode cL_isAct 256 = .ok (.iadd, 1) := by decide +kernel
theorem dL_isAct_257 : decode cL_isAct 257 = .ok (.sipush 200, 3) := by decide +kernel
theorem dL_isAct_260 : decode cL_isAct 260 = .ok (.invokestatic 81, 3) := by decide +kernel
theorem dL_isAct_263 : decode cL_isAct 263 = .ok (.invokestatic 99, 3) := by decide +kernel
theorem dL_isAct_266 : decode cL_isAct 266 = .ok (.ireturn, 1) := by decide +kernel
theorem dL_isAct_267 : decode cL_isAct 267 = .ok (.aload_n 0, 1) := by decide +kernel
theorem dL_isAct_268 : decode cL_isAct 268 = .ok (.aload_n 1, 1) := by decide +kernel
theorem dL_isAct_269 : decode cL_isAct 269 = .ok (.iload_n 2, 1) := by decide +kernel
theorem dL_isAct_270 : decode cL_isAct 270 = .ok (.iconst 2, 1) := by decide +kernel
theorem dL_isAct_271 : decode cL_isAct 271 = .ok (.iadd, 1) := by decide +kernel
theorem dL_isAct_272 : decode cL_isAct 272 = .ok (.aload_n 0, 1) := by decide +kernel
theorem dL_isAct_273 : decode cL_isAct 273 = .ok (.bipush 6, 2) := by decide +kernel
theorem dL_isAct_275 : decode cL_isAct 275 = .ok (.invokevirtual 8, 3) := by decide +kernel
theorem dL_isAct_278 : decode cL_isAct 278 = .ok (.iconst 1, 1) := by decide +kernel
theorem dL_isAct_279 : decode cL_isAct 279 = .ok (.iadd, 1) := by decide +kernel
theorem dL_isAct_280 : decode cL_isAct 280 = .ok (.invokestatic 81, 3) := by decide +kernel
theorem dL_isAct_283 : decode cL_isAct 283 = .ok (.invokestatic 103, 3) := by decide +kernel
theorem dL_isAct_286 : decode cL_isAct 286 = .ok (.ireturn, 1) := by decide +kernel
theorem dL_isAct_287 : decode cL_isAct 287 = .ok (.aload_n 0, 1) := by decide +kernel
theorem dL_isAct_288 : decode cL_isAct 288 = .ok (.bipush 8, 2) := by decide +kernel
theorem dL_isAct_290 : decode cL_isAct 290 = .ok (.invokevirtual 8, 3) := by decide +kernel
theorem dL_isAct_293 : decode cL_isAct 293 = .ok (.istore 5, 2) := by decide +kernel
theorem dL_isAct_295 : decode cL_isAct 295 = .ok (.aload_n 0, 1) := by decide +kernel
theorem dL_isAct_296 : decode cL_isAct 296 = .ok (.aload_n 0, 1) := by decide +kernel
theorem dL_isAct_297 : decode cL_isAct 297 = .ok (.iconst 0, 1) := by decide +kernel
theorem dL_isAct_298 : decode cL_isAct 298 = .ok (.invokevirtual 8, 3) := by decide +kernel
theorem dL_isAct_301 : decode cL_isAct 301 = .ok (.aload_n 1, 1) := by decide +kernel
theorem dL_isAct_302 : decode cL_isAct 302 = .ok (.iload_n 2, 1) := by decide +kernel
theorem dL_isAct_303 : decode cL_isAct 303 = .ok (.iconst 2, 1) := by decide +kernel
theorem dL_isAct_304 : decode cL_isAct 304 = .ok (.iadd, 1) := by decide +kernel
theorem dL_isAct_305 : decode cL_isAct 305 = .ok (.bipush 40, 2) := by decide +kernel
theorem dL_isAct_307 : decode cL_isAct 307 = .ok (.invokestatic 81, 3) := by decide +kernel
theorem dL_isAct_310 : decode cL_isAct 310 = .ok (.iadd, 1) := by decide +kernel
theorem dL_isAct_311 : decode cL_isAct 311 = .ok (.iconst 1, 1) := by decide +kernel
theorem dL_isAct_312 : decode cL_isAct 312 = .ok (.aload_n 1, 1) := by decide +kernel
theorem dL_isAct_313 : decode cL_isAct 313 = .ok (.iload_n 2, 1) := by decide +kernel
theorem dL_isAct_314 : decode cL_isAct 314 = .ok (.iconst 3, 1) := by decide +kernel
theorem dL_isAct_315 : decode cL_isAct 315 = .ok (.iadd, 1) := by decide +kernel
theorem dL_isAct_316 : decode cL_isAct 316 = .ok (.bipush 50, 2) := by decide +kernel
theorem dL_isAct_318 : decode cL_isAct 318 = .ok (.invokestatic 81, 3) := by decide +kernel
theorem dL_isAct_321 : decode cL_isAct 321 = .ok (.iadd, 1) := by decide +kernel
theorem dL_isAct_322 : decode cL_isAct 322 = .ok (.invokevirtual 107, 3) := by decide +kernel
theorem dL_isAct_325 : decode cL_isAct 325 = .ok (.iload 5, 2) := by decide +kernel
theorem dL_isAct_327 : decode cL_isAct 327 = .ok (.bipush 10, 2) := by decide +kernel
theorem dL_isAct_329 : decode cL_isAct 329 = .ok (.if_icmp .ne 8, 3) := by decide +kernel
theorem dL_isAct_332 : decode cL_isAct 332 = .ok (.bipush (-4), 2) := by decide +kernel
theorem dL_isAct_334 : decode cL_isAct 334 = .ok (.goto 7, 3) := by decide +kernel
theorem dL_isAct_337 : decode cL_isAct 337 = .ok (.iload 5, 2) := by decide +kernel
theorem dL_isAct_339 : decode cL_isAct 339 = .ok (.iconst 1, 1) := by decide +kernel
theorem dL_isAct_340 : decode cL_isAct 340 = .ok (.iadd, 1) := by decide +kernel
theorem dL_isAct_341 : decode cL_isAct 341 = .ok (.if_icmp .ne 7, 3) := by decide +kernel
theorem dL_isAct_344 : decode cL_isAct 344 = .ok (.iconst 1, 1) := by decide +kernel
theorem dL_isAct_345 : decode cL_isAct 345 = .ok (.goto 4, 3) := by decide +kernel
theorem dL_isAct_348 : decode cL_isAct 348 = .ok (.iconst 0, 1) := by decide +kernel
theorem dL_isAct_349 : decode cL_isAct 349 = .ok (.ireturn, 1) := by decide +kernel
theorem dL_isAct_350 : decode cL_isAct 350 = .ok (.aload_n 0, 1) := by decide +kernel
theorem dL_isAct_351 : decode cL_isAct 351 = .ok (.iconst 1, 1) := by decide +kernel
theorem dL_isAct_352 : decode cL_isAct 352 = .ok (.aload_n 1, 1) := by decide +kernel
theorem dL_isAct_353 : decode cL_isAct 353 = .ok (.iload_n 2, 1) := by decide +kernel
theorem dL_isAct_354 : decode cL_isAct 354 = .ok (.iconst 2, 1) := by decide +kernel
theorem dL_isAct_355 : decode cL_isAct 355 = .ok (.iadd, 1) := by decide +kernel
theorem dL_isAct_356 : decode cL_isAct 356 = .ok (.bipush 60, 2) := by decide +kernel
theorem dL_isAct_358 : decode cL_isAct 358 = .ok (.invokestatic 81, 3) := by decide +kernel
theorem dL_isAct_361 : decode cL_isAct 361 = .ok (.iadd, 1) := by decide +kernel
theorem dL_isAct_362 : decode cL_isAct 362 = .ok (.invokestatic 110, 3) := by decide +kernel
theorem dL_isAct_365 : decode cL_isAct 365 = .ok (.ireturn, 1) := by decide +kernel
theorem dL_isServed_0 : decode cL_isServed 0 = .ok (.aload_n 0, 1) := by decide +kernel
theorem dL_isServed_1 : decode cL_isServed 1 = .ok (.iconst 3, 1) := by decide +kernel
theorem dL_isServed_2 : decode cL_isServed 2 = .ok (.invokevirtual 8, 3) := by decide +kernel
theorem dL_isServed_5 : decode cL_isServed 5 = .ok (.istore_n 1, 1) := by decide +kernel
theorem dL_isServed_6 : decode cL_isServed 6 = .ok (.iload_n 1, 1) := by decide +kernel
theorem dL_isServed_7 : decode cL_isServed 7 = .ok (.ifCond .eq 20, 3) := by decide +kernel
theorem dL_isServed_10 : decode cL_isServed 10 = .ok (.iload_n 1, 1) := by decide +kernel
theorem dL_isServed_11 : decode cL_isServed 11 = .ok (.bipush 8, 2) := by decide +kernel
theorem dL_isServed_13 : decode cL_isServed 13 = .ok (.if_icmp .gt 14, 3) := by decide +kernel
theorem dL_isServed_16 : decode cL_isServed 16 = .ok (.aload_n 0, 1) := by decide +kernel
theorem dL_isServed_17 : decode cL_isServed 17 = .ok (.bipush 6, 2) := by decide +kernel
theorem dL_isServed_19 : decode cL_isServed 19 = .ok (.invokevirtual 8, 3) := by decide +kernel
theorem dL_isServed_22 : decode cL_isServed 22 = .ok (.bipush 8, 2) := by decide +kernel
theorem dL_isServed_24 : decode cL_isServed 24 = .ok (.if_icmp .ne 5, 3) := by decide +kernel
theorem dL_isServed_27 : decode cL_isServed 27 = .ok (.iconst 1, 1) := by decide +kernel
theorem dL_isServed_28 : decode cL_isServed 28 = .ok (.ireturn, 1) := by decide +kernel
theorem dL_isServed_29 : decode cL_isServed 29 = .ok (.lconst 0, 1) := by decide +kernel
theorem dL_isServed_30 : decode cL_isServed 30 = .ok (.lstore_n 2, 1) := by decide +kernel
theorem dL_isServed_31 : decode cL_isServed 31 = .ok (.iload_n 1, 1) := by decide +kernel
theorem dL_isServed_32 : decode cL_isServed 32 = .ok (.iconst 1, 1) := by decide +kernel
theorem dL_isServed_33 : decode cL_isServed 33 = .ok (.isub, 1) := by decide +kernel
theorem dL_isServed_34 : decode cL_isServed 34 = .ok (.istore 4, 2) := by decide +kernel
theorem dL_isServed_36 : decode cL_isServed 36 = .ok (.iload 4, 2) := by decide +kernel
theorem dL_isServed_38 : decode cL_isServed 38 = .ok (.ifCond .lt 46, 3) := by decide +kernel
theorem dL_isServed_41 : decode cL_isServed 41 = .ok (.aload_n 0, 1) := by decide +kernel
theorem dL_isServed_42 : decode cL_isServed 42 = .ok (.aload_n 0, 1) := by decide +kernel
theorem dL_isServed_43 : decode cL_isServed 43 = .ok (.bipush (-6), 2) := by decide +kernel
theorem dL_isServed_45 : decode cL_isServed 45 = .ok (.iload 4, 2) := by decide +kernel
theorem dL_isServed_47 : decode cL_isServed 47 = .ok (.invokevirtual 18, 3) := by decide +kernel
theorem dL_isServed_50 : decode cL_isServed 50 = .ok (.bipush 6, 2) := by decide +kernel
theorem dL_isServed_52 : decode cL_isServed 52 = .ok (.invokevirtual 21, 3) := by decide +kernel
theorem dL_isServed_55 : decode cL_isServed 55 = .ok (.ifCond .lt 5, 3) := by decide +kernel
theorem dL_isServed_58 : decode cL_isServed 58 = .ok (.iconst 1, 1) := by decide +kernel
theorem dL_isServed_59 : decode cL_isServed 59 = .ok (.ireturn, 1) := by decide +kernel
theorem dL_isServed_60 : decode cL_isServed 60 = .ok (.ldc2_w 57, 3) := by decide +kernel
theorem dL_isServed_63 : decode cL_isServed 63 = .ok (.lload_n 2, 1) := by decide +kernel
theorem dL_isServed_64 : decode cL_isServed 64 = .ok (.lmul, 1) := by decide +kernel
theorem dL_isServed_65 : decode cL_isServed 65 = .ok (.aload_n 0, 1) := by decide +kernel
theorem dL_isServed_66 : decode cL_isServed 66 = .ok (.bipush (-6), 2) := by decide +kernel
theorem dL_isServed_68 : decode cL_isServed 68 = .ok (.iload 4, 2) := by decide +kernel
theorem dL_isServed_70 : decode cL_isServed 70 = .ok (.invokevirtual 18, 3) := by decide +kernel
theorem dL_isServed_73 : decode cL_isServed 73 = .ok (.i2l, 1) := by decide +kernel
theorem dL_isServed_74 : decode cL_isServed 74 = .ok (.ladd, 1) := by decide +kernel
theorem dL_isServed_75 : decode cL_isServed 75 = .ok (.lconst 1, 1) := by decide +kernel
theorem dL_isServed_76 : decode cL_isServed 76 = .ok (.ladd, 1) := by decide +kernel
theorem dL_isServed_77 : decode cL_isServed 77 = .ok (.lstore_n 2, 1) := by decide +kernel
theorem dL_isServed_78 : decode cL_isServed 78 = .ok (.iinc 4 (-1), 3) := by decide +kernel
theorem dL_isServed_81 : decode cL_isServed 81 = .ok (.goto (-45), 3) := by decide +kernel
theorem dL_isServed_84 : decode cL_isServed 84 = .ok (.aload_n 0, 1) := by decide +kernel
theorem dL_isServed_85 : decode cL_isServed 85 = .ok (.lload_n 2, 1) := by decide +kernel
theorem dL_isServed_86 : decode cL_isServed 86 = .ok (.aload_n 0, 1) := by decide +kernel
theorem dL_isServed_87 : decode cL_isServed 87 = .ok (.iconst 0, 1) := by decide +kernel
theorem dL_isServed_88 : decode cL_isServed 88 = .ok (.invokevirtual 8, 3) := by decide +kernel
theorem dL_isServed_91 : decode cL_isServed 91 = .ok (.invokevirtual 59, 3) := by decide +kernel
theorem dL_isServed_94 : decode cL_isServed 94 = .ok (.istore 4, 2) := by decide +kernel
theorem dL_isServed_96 : decode cL_isServed 96 = .ok (.iload 4, 2) := by decide +kernel
theorem dL_isServed_98 : decode cL_isServed 98 = .ok (.aload_n 0, 1) := by decide +kernel
theorem dL_isServed_99 : decode cL_isServed 99 = .ok (.bipush 6, 2) := by decide +kernel
theorem dL_isServed_101 : decode cL_isServed 101 = .ok (.invokevirtual 8, 3) := by decide +kernel
theorem dL_isServed_104 : decode cL_isServed 104 = .ok (.iconst 1, 1) := by decide +kernel
theorem dL_isServed_105 : decode cL_isServed 105 = .ok (.isub, 1) := by decide +kernel
theorem dL_isServed_106 : decode cL_isServed 106 = .ok (.if_icmp .ne 26, 3) := by decide +kernel
theorem dL_isServed_109 : decode cL_isServed 109 = .ok (.aload_n 0, 1) := by decide +kernel
theorem dL_isServed_110 : decode cL_isServed 110 = .ok (.iload 4, 2) := by decide +kernel
theorem dL_isServed_112 : decode cL_isServed 112 = .ok (.invokevirtual 113, 3) := by decide +kernel
theorem dL_isServed_115 : decode cL_isServed 115 = .ok (.iconst 1, 1) := by decide +kernel
theorem dL_isServed_116 : decode cL_isServed 116 = .ok (.if_icmp .ne 16, 3) := by decide +kernel
theorem dL_isServed_119 : decode cL_isServed 119 = .ok (.aload_n 0, 1) := by decide +kernel
theorem dL_isServed_120 : decode cL_isServed 120 = .ok (.iload 4, 2) := by decide +kernel
theorem dL_isServed_122 : decode cL_isServed 122 = .ok (.invokestatic 103, 3) := by decide +kernel
theorem dL_isServed_125 : decode cL_isServed 125 = .ok (.ifCond .eq 7, 3) := by decide +kernel
theorem dL_isServed_128 : decode cL_isServed 128 = .ok (.iconst 1, 1) := by decide +kernel
theorem dL_isServed_129 : decode cL_isServed 129 = .ok (.goto 4, 3) := by decide +kernel
theorem dL_isServed_132 : decode cL_isServed 132 = .ok (.iconst 0, 1) := by decide +kernel
theorem dL_isServed_133 : decode cL_isServed 133 = .ok (.ireturn, 1) := by decide +kernel
theorem dL_law_0 : decode cL_law 0 = .ok (.new 9, 3) := by decide +kernel
theorem dL_law_3 : decode cL_law 3 = .ok (.dup, 1) := by decide +kernel
theorem dL_law_4 : decode cL_law 4 = .ok (.invokespecial 116, 3) := by decide +kernel
theorem dL_law_7 : decode cL_law 7 = .ok (.astore_n 1, 1) := by decide +kernel
theorem dL_law_8 : decode cL_law 8 = .ok (.aload_n 1, 1) := by decide +kernel
theorem dL_law_9 : decode cL_law 9 = .ok (.iconst 0, 1) := by decide +kernel
theorem dL_law_10 : decode cL_law 10 = .ok (.iconst 4, 1) := by decide +kernel
theorem dL_law_11 : decode cL_law 11 = .ok (.aload_n 0, 1) := by decide +kernel
theorem dL_law_12 : decode cL_law 12 = .ok (.iconst 0, 1) := by decide +kernel
theorem dL_law_13 : decode cL_law 13 = .ok (.bipush 40, 2) := by decide +kernel
theorem dL_law_15 : decode cL_law 15 = .ok (.invokestatic 81, 3) := by decide +kernel
theorem dL_law_18 : decode cL_law 18 = .ok (.iadd, 1) := by decide +kernel
theorem dL_law_19 : decode cL_law 19 = .ok (.invokevirtual 117, 3) := by decide +kernel
theorem dL_law_22 : decode cL_law 22 = .ok (.pop, 1) := by decide +kernel
theorem dL_law_23 : decode cL_law 23 = .ok (.aload_n 1, 1) := by decide +kernel
theorem dL_law_24 : decode cL_law 24 = .ok (.iconst 1, 1) := by decide +kernel
theorem dL_law_25 : decode cL_law 25 = .ok (.iconst 2, 1) := by decide +kernel
theorem dL_law_26 : decode cL_law 26 = .ok (.aload_n 0, 1) := by decide +kernel
theorem dL_law_27 : decode cL_law 27 = .ok (.iconst 1, 1) := by decide +kernel
theorem dL_law_28 : decode cL_law 28 = .ok (.bipush 40, 2) := by decide +kernel
theorem dL_law_30 : decode cL_law 30 = .ok (.invokestatic 81, 3) := by decide +kernel
theorem dL_law_33 : decode cL_law 33 = .ok (.iadd, 1) := by decide +kernel
theorem dL_law_34 : decode cL_law 34 = .ok (.invokevirtual 117, 3) := by decide +kernel
theorem dL_law_37 : decode cL_law 37 = .ok (.pop, 1) := by decide +kernel
theorem dL_law_38 : decode cL_law 38 = .ok (.aload_n 1, 1) := by decide +kernel
theorem dL_law_39 : decode cL_law 39 = .ok (.iconst 3, 1) := by decide +kernel
theorem dL_law_40 : decode cL_law 40 = .ok (.aload_n 0, 1) := by decide +kernel
theorem dL_law_41 : decode cL_law 41 = .ok (.iconst 2, 1) := by decide +kernel
theorem dL_law_42 : decode cL_law 42 = .ok (.iconst 4, 1) := by decide +kernel
theorem dL_law_43 : decode cL_law 43 = .ok (.invokestatic 81, 3) := by decide +kernel
theorem dL_law_46 : decode cL_law 46 = .ok (.invokevirtual 117, 3) := by decide +kernel
theorem dL_law_49 : decode cL_law 49 = .ok (.pop, 1) := by decide +kernel
theorem dL_law_50 : decode cL_law 50 = .ok (.iconst 0, 1) := by decide +kernel
theorem dL_law_51 : decode cL_law 51 = .ok (.istore_n 2, 1) := by decide +kernel
theorem dL_law_52 : decode cL_law 52 = .ok (.iload_n 2, 1) := by decide +kernel
theorem dL_law_53 : decode cL_law 53 = .ok (.iconst 3, 1) := by decide +kernel
theorem dL_law_54 : decode cL_law 54 = .ok (.if_icmp .ge 31, 3) := by decide +kernel
theorem dL_law_57 : decode cL_law 57 = .ok (.aload_n 1, 1) := by decide +kernel
theorem dL_law_58 : decode cL_law 58 = .ok (.bipush 8, 2) := by decide +kernel
theorem dL_law_60 : decode cL_law 60 = .ok (.aload_n 0, 1) := by decide +kernel
theorem dL_law_61 : decode cL_law 61 = .ok (.iconst 3, 1) := by decide +kernel
theorem dL_law_62 : decode cL_law 62 = .ok (.iload_n 2, 1) := by decide +kernel
theorem dL_law_63 : decode cL_law 63 = .ok (.iadd, 1) := by decide +kernel
theorem dL_law_64 : decode cL_law 64 = .ok (.bipush 50, 2) := by decide +kernel
theorem dL_law_66 : decode cL_law 66 = .ok (.invokestatic 81, 3) := by decide +kernel
theorem dL_law_69 : decode cL_law 69 = .ok (.iadd, 1) := by decide +kernel
theorem dL_law_70 : decode cL_law 70 = .ok (.invokevirtual 120, 3) := by decide +kernel
theorem dL_law_73 : decode cL_law 73 = .ok (.iload_n 2, 1) := by decide +kernel
theorem dL_law_74 : decode cL_law 74 = .ok (.if_icmp .eq 5, 3) := by decide +kernel
theorem dL_law_77 : decode cL_law 77 = .ok (.iconst 0, 1) := by decide +kernel
theorem dL_law_78 : decode cL_law 78 = .ok (.ireturn, 1) := by decide +kernel
theorem dL_law_79 : decode cL_law 79 = .ok (.iinc 2 1, 3) := by decide +kernel
theorem dL_law_82 : decode cL_law 82 = .ok (.goto (-30), 3) := by decide +kernel
theorem dL_law_85 : decode cL_law 85 = .ok (.iconst 0, 1) := by decide +kernel
theorem dL_law_86 : decode cL_law 86 = .ok (.istore_n 2, 1) := by decide +kernel
theorem dL_law_87 : decode cL_law 87 = .ok (.iload_n 2, 1) := by decide +kernel
theorem dL_law_88 : decode cL_law 88 = .ok (.bipush 12, 2) := by decide +kernel
theorem dL_law_90 : decode cL_law 90 = .ok (.if_icmp .ge 38, 3) := by decide +kernel
theorem dL_law_93 : decode cL_law 93 = .ok (.aload_n 1, 1) := by decide +kernel
theorem dL_law_94 : decode cL_law 94 = .ok (.aload_n 0, 1) := by decide +kernel
theorem dL_law_95 : decode cL_law 95 = .ok (.bipush 6, 2) := by decide +kernel
theorem dL_law_97 : decode cL_law 97 = .ok (.iload_n 2, 1) := by decide +kernel
theorem dL_law_98 : decode cL_law 98 = .ok (.iadd, 1) := by decide +kernel
theorem dL_law_99 : decode cL_law 99 = .ok (.iconst 3, 1) := by decide +kernel
theorem dL_law_100 : decode cL_law 100 = .ok (.invokestatic 81, 3) := by decide +kernel
theorem dL_law_103 : decode cL_law 103 = .ok (.iconst 1, 1) := by decide +kernel
theorem dL_law_104 : decode cL_law 104 = .ok (.aload_n 0, 1) := by decide +kernel
theorem dL_law_105 : decode cL_law 105 = .ok (.bipush 18, 2) := by decide +kernel
theorem dL_law_107 : decode cL_law 107 = .ok (.iload_n 2, 1) := by decide +kernel
theorem dL_law_108 : decode cL_law 108 = .ok (.iadd, 1) := by decide +kernel
theorem dL_law_109 : decode cL_law 109 = .ok (.iconst 3, 1) := by decide +kernel
theorem dL_law_110 : decode cL_law 110 = .ok (.invokestatic 81, 3) := by decide +kernel
theorem dL_law_113 : decode cL_law 113 = .ok (.iadd, 1) := by decide +kernel
theorem dL_law_114 : decode cL_law 114 = .ok (.invokestatic 96, 3) := by decide +kernel
theorem dL_law_117 : decode cL_law 117 = .ok (.ifCond .ne 5, 3) := by decide +kernel
theorem dL_law_120 : decode cL_law 120 = .ok (.iconst 0, 1) := by decide +kernel
theorem dL_law_121 : decode cL_law 121 = .ok (.ireturn, 1) := by decide +kernel
theorem dL_law_122 : decode cL_law 122 = .ok (.iinc 2 1, 3) := by decide +kernel
theorem dL_law_125 : decode cL_law 125 = .ok (.goto (-38), 3) := by decide +kernel
theorem dL_law_128 : decode cL_law 128 = .ok (.iconst 0, 1) := by decide +kernel
theorem dL_law_129 : decode cL_law 129 = .ok (.istore_n 2, 1) := by decide +kernel
theorem dL_law_130 : decode cL_law 130 = .ok (.iload_n 2, 1) := by decide +kernel
theorem dL_law_131 : decode cL_law 131 = .ok (.bipush 48, 2) := by decide +kernel
theorem dL_law_133 : decode cL_law 133 = .ok (.if_icmp .ge 49, 3) := by decide +kernel
theorem dL_law_136 : decode cL_law 136 = .ok (.aload_n 1, 1) := by decide +kernel
theorem dL_law_137 : decode cL_law 137 = .ok (.aload_n 0, 1) := by decide +kernel
theorem dL_law_138 : decode cL_law 138 = .ok (.bipush 30, 2) := by decide +kernel
theorem dL_law_140 : decode cL_law 140 = .ok (.bipush 6, 2) := by decide +kernel
theorem dL_law_142 : decode cL_law 142 = .ok (.iload_n 2, 1) := by decide +kernel
theorem dL_law_143 : decode cL_law 143 = .ok (.imul, 1) := by decide +kernel
theorem dL_law_144 : decode cL_law 144 = .ok (.iadd, 1) := by decide +kernel
theorem dL_law_145 : decode cL_law 145 = .ok (.invokestatic 123, 3) := by decide +kernel
theorem dL_law_148 : decode cL_law 148 = .ok (.ifCond .eq 26, 3) := by decide +kernel
theorem dL_law_151 : decode cL_law 151 = .ok (.aload_n 1, 1) := by decide +kernel
theorem dL_law_152 : decode cL_law 152 = .ok (.invokestatic 127, 3) := by decide +kernel
theorem dL_law_155 : decode cL_law 155 = .ok (.ifCond .eq 19, 3) := by decide +kernel
theorem dL_law_158 : decode cL_law 158 = .ok (.iload_n 2, 1) := by decide +kernel
theorem dL_law_159 : decode cL_law 159 = .ok (.bipush 16, 2) := by decide +kernel
theorem dL_law_161 : decode cL_law 161 = .ok (.irem, 1) := by decide +kernel
theorem dL_law_162 : decode cL_law 162 = .ok (.bipush 15, 2) := by decide +kernel
theorem dL_law_164 : decode cL_law 164 = .ok (.if_icmp .ne 12, 3) := by decide +kernel
theorem dL_law_167 : decode cL_law 167 = .ok (.aload_n 1, 1) := by decide +kernel
theorem dL_law_168 : decode cL_law 168 = .ok (.invokestatic 130, 3) := by decide +kernel
theorem dL_law_171 : decode cL_law 171 = .ok (.ifCond .ne 5, 3) := by decide +kernel
theorem dL_law_174 : decode cL_law 174 = .ok (.iconst 0, 1) := by decide +kernel
theorem dL_law_175 : decode cL_law 175 = .ok (.ireturn, 1) := by decide +kernel
theorem dL_law_176 : decode cL_law 176 = .ok (.iinc 2 1, 3) := by decide +kernel
theorem dL_law_179 : decode cL_law 179 = .ok (.goto (-49), 3) := by decide +kernel
theorem dL_law_182 : decode cL_law 182 = .ok (.aload_n 1, 1) := by decide +kernel
theorem dL_law_183 : decode cL_law 183 = .ok (.invokestatic 127, 3) := by decide +kernel
theorem dL_law_186 : decode cL_law 186 = .ok (.ireturn, 1) := by decide +kernel
end
section
def big : List Cond := lw_tbl.filter goodWord
theorem big_good {w : Cond} (h : w ∈ big) : goodWord w = true := (List.mem_filter.mp h).2
theorem big_t {w : Cond} (i : Nat) (h : tables_1[i]? = some w) (g : goodWord w = true) : w ∈ big := List.mem_filter.mpr ⟨List.mem_append_right _ (List.mem_of_getElem? h), g⟩
theorem big_s {w : Cond} (i : Nat) (h : (k2_sels lw_privs)[i]? = some w) (g : goodWord w = true) : w ∈ big := List.mem_filter.mpr ⟨List.mem_append_left _ (List.mem_of_getElem? h), g⟩
theorem wN_L : Cond.initialized RL ∈ big := big_t 0 (by decide +kernel) (by decide +kernel)
theorem wN_X7 : Cond.initialized RX7 ∈ big := big_t 1 (by decide +kernel) (by decide +kernel)
theorem wN_X6 : Cond.initialized RX6 ∈ big := big_t 2 (by decide +kernel) (by decide +kernel)
theorem wN_X5 : Cond.initialized RX5 ∈ big := big_t 3 (by decide +kernel) (by decide +kernel)
theorem wN_X0 : Cond.initialized RX0 ∈ big := big_t 4 (by decide +kernel) (by decide +kernel)
theorem wN_X3 : Cond.initialized RX3 ∈ big := big_t 5 (by decide +kernel) (by decide +kernel)
theorem wN_X4 : Cond.initialized RX4 ∈ big := big_t 6 (by decide +kernel) (by decide +kernel)
theorem wN_X1 : Cond.initialized RX1 ∈ big := big_t 7 (by decide +kernel) (by decide +kernel)
theorem wN_X2 : Cond.initialized RX2 ∈ big := big_t 8 (by decide +kernel) (by decide +kernel)
theorem wN_System : Cond.initialized "java/lang/System" ∈ big := big_t 9 (by decide +kernel) (by decide +kernel)
theorem wN_Math : Cond.initialized "java/lang/Math" ∈ big := big_t 10 (by decide +kernel) (by decide +kernel)
theorem wM_L_116 : Cond.methodLink RL 116 yX7_init ∈ big := big_t 13 (by decide +kernel) (by decide +kernel)
theorem wI_X7_init : Cond.instanceMethod yX7_init ∈ big := big_t 14 (by decide +kernel) (by decide +kernel)
theorem wC_X7_init : Cond.code yX7_init cX7_init 2 none ∈ big := big_t 15 (by decide +kernel) (by decide +kernel)
theorem wI_X6_init : Cond.instanceMethod yX6_init ∈ big := big_t 22 (by decide +kernel) (by decide +kernel)
theorem wC_X6_init : Cond.code yX6_init cX6_init 1 none ∈ big := big_t 23 (by decide +kernel) (by decide +kernel)
theorem wI_X5_init : Cond.instanceMethod yX5_init ∈ big := big_t 37 (by decide +kernel) (by decide +kernel)
theorem wC_X5_init : Cond.code yX5_init cX5_init 1 none ∈ big := big_t 38 (by decide +kernel) (by decide +kernel)
theorem wF_X5_27 : Cond.fieldLink RX5 27 RX5 "number" "I" ∈ big := big_t 40 (by decide +kernel) (by decide +kernel)
theorem wF_X5_31 : Cond.fieldLink RX5 31 RX5 "manyGone" "I" ∈ big := big_t 42 (by decide +kernel) (by decide +kernel)
theorem wF_X5_9 : Cond.fieldLink RX5 9 RX5 "length" "[I" ∈ big := big_t 44 (by decide +kernel) (by decide +kernel)
theorem wF_X5_15 : Cond.fieldLink RX5 15 RX5 "leftAt" "[I" ∈ big := big_t 46 (by decide +kernel) (by decide +kernel)
theorem wF_X5_18 : Cond.fieldLink RX5 18 RX5 "timesPulled" "[I" ∈ big := big_t 48 (by decide +kernel) (by decide +kernel)
theorem wF_X5_21 : Cond.fieldLink RX5 21 RX5 "inRow" "[I" ∈ big := big_t 50 (by decide +kernel) (by decide +kernel)
theorem wF_X5_24 : Cond.fieldLink RX5 24 RX5 "rows" "[I" ∈ big := big_t 51 (by decide +kernel) (by decide +kernel)
theorem wA_int : Cond.arrayClass (newarray.typeOf .int) ∈ big := big_t 67 (by decide +kernel) (by decide +kernel)
theorem wI_X0_init : Cond.instanceMethod yX0_init ∈ big := big_t 71 (by decide +kernel) (by decide +kernel)
theorem wC_X0_init : Cond.code yX0_init cX0_init 1 none ∈ big := big_t 72 (by decide +kernel) (by decide +kernel)
theorem wF_X0_18 : Cond.fieldLink RX0 18 RX0 "number" "I" ∈ big := big_t 74 (by decide +kernel) (by decide +kernel)
theorem wF_X0_9 : Cond.fieldLink RX0 9 RX0 "begins" "[I" ∈ big := big_t 76 (by decide +kernel) (by decide +kernel)
theorem wF_X0_15 : Cond.fieldLink RX0 15 RX0 "ends" "[I" ∈ big := big_t 77 (by decide +kernel) (by decide +kernel)
theorem wI_X3_init : Cond.instanceMethod yX3_init ∈ big := big_t 88 (by decide +kernel) (by decide +kernel)
theorem wC_X3_init : Cond.code yX3_init cX3_init 1 none ∈ big := big_t 89 (by decide +kernel) (by decide +kernel)
theorem wF_X3_21 : Cond.fieldLink RX3 21 RX3 "waiting" "I" ∈ big := big_t 91 (by decide +kernel) (by decide +kernel)
theorem wF_X3_9 : Cond.fieldLink RX3 9 RX3 "due" "[I" ∈ big := big_t 93 (by decide +kernel) (by decide +kernel)
theorem wF_X3_15 : Cond.fieldLink RX3 15 RX3 "size" "[I" ∈ big := big_t 95 (by decide +kernel) (by decide +kernel)
theorem wF_X3_18 : Cond.fieldLink RX3 18 RX3 "lists" "[I" ∈ big := big_t 96 (by decide +kernel) (by decide +kernel)
theorem wF_X6_53 : Cond.fieldLink RX6 53 RX6 "minute" "I" ∈ big := big_t 106 (by decide +kernel) (by decide +kernel)
theorem wF_X6_57 : Cond.fieldLink RX6 57 RX6 "couplings" "I" ∈ big := big_t 108 (by decide +kernel) (by decide +kernel)
theorem wF_X6_60 : Cond.fieldLink RX6 60 RX6 "movesMade" "I" ∈ big := big_t 109 (by decide +kernel) (by decide +kernel)
theorem wF_X6_63 : Cond.fieldLink RX6 63 RX6 "waited" "I" ∈ big := big_t 110 (by decide +kernel) (by decide +kernel)
theorem wF_X6_66 : Cond.fieldLink RX6 66 RX6 "fines" "I" ∈ big := big_t 111 (by decide +kernel) (by decide +kernel)
theorem wF_X6_69 : Cond.fieldLink RX6 69 RX6 "trainsLeft" "I" ∈ big := big_t 112 (by decide +kernel) (by decide +kernel)
theorem wF_X6_18 : Cond.fieldLink RX6 18 RX6 "settings" "[I" ∈ big := big_t 113 (by decide +kernel) (by decide +kernel)
theorem wF_X6_78 : Cond.fieldLink RX6 78 RX6 "tracks" "I" ∈ big := big_t 114 (by decide +kernel) (by decide +kernel)
theorem wF_X6_23 : Cond.fieldLink RX6 23 RX6 "trackLength" "[I" ∈ big := big_t 116 (by decide +kernel) (by decide +kernel)
theorem wF_X6_26 : Cond.fieldLink RX6 26 RX6 "cameOut" "[I" ∈ big := big_t 117 (by decide +kernel) (by decide +kernel)
theorem wF_X6_29 : Cond.fieldLink RX6 29 RX6 "pushedIn" "[I" ∈ big := big_t 118 (by decide +kernel) (by decide +kernel)
theorem wF_X6_35 : Cond.fieldLink RX6 35 RX6 "wagons" "LPickupYard$Wagons;" ∈ big := big_t 119 (by decide +kernel) (by decide +kernel)
theorem wF_X6_42 : Cond.fieldLink RX6 42 RX6 "blocks" "LPickupYard$Blocks;" ∈ big := big_t 122 (by decide +kernel) (by decide +kernel)
theorem wF_X6_49 : Cond.fieldLink RX6 49 RX6 "trains" "LPickupYard$Trains;" ∈ big := big_t 124 (by decide +kernel) (by decide +kernel)
theorem wI_X4_init : Cond.instanceMethod yX4_init ∈ big := big_t 159 (by decide +kernel) (by decide +kernel)
theorem wC_X4_init : Cond.code yX4_init cX4_init 1 none ∈ big := big_t 160 (by decide +kernel) (by decide +kernel)
theorem wF_X4_12 : Cond.fieldLink RX4 12 RX4 "copy" "LPickupYard$Yard;" ∈ big := big_t 164 (by decide +kernel) (by decide +kernel)
theorem wM_X7_25 : Cond.methodLink RX7 25 yX1_init ∈ big := big_t 171 (by decide +kernel) (by decide +kernel)
theorem wI_X1_init : Cond.instanceMethod yX1_init ∈ big := big_t 172 (by decide +kernel) (by decide +kernel)
theorem wC_X1_init : Cond.code yX1_init cX1_init 2 none ∈ big := big_t 173 (by decide +kernel) (by decide +kernel)
theorem wF_X1_18 : Cond.fieldLink RX1 18 RX1 "number" "I" ∈ big := big_t 178 (by decide +kernel) (by decide +kernel)
theorem wF_X1_11 : Cond.fieldLink RX1 11 RX1 "states" "[LPickupYard$Yard;" ∈ big := big_t 180 (by decide +kernel) (by decide +kernel)
theorem wI_X2_init : Cond.instanceMethod yX2_init ∈ big := big_t 189 (by decide +kernel) (by decide +kernel)
theorem wC_X2_init : Cond.code yX2_init cX2_init 1 none ∈ big := big_t 190 (by decide +kernel) (by decide +kernel)
theorem wF_X2_9 : Cond.fieldLink RX2 9 RX2 "text" "[C" ∈ big := big_t 193 (by decide +kernel) (by decide +kernel)
theorem wF_X7_12 : Cond.fieldLink RX7 12 RX7 "yard" "LPickupYard$Yard;" ∈ big := big_t 201 (by decide +kernel) (by decide +kernel)
theorem wF_X7_19 : Cond.fieldLink RX7 19 RX7 "trial" "LPickupYard$Trial;" ∈ big := big_t 202 (by decide +kernel) (by decide +kernel)
theorem wF_X7_26 : Cond.fieldLink RX7 26 RX7 "history" "LPickupYard$History;" ∈ big := big_t 203 (by decide +kernel) (by decide +kernel)
theorem wF_X7_30 : Cond.fieldLink RX7 30 RX7 "slots" "[LPickupYard$Yard;" ∈ big := big_t 204 (by decide +kernel) (by decide +kernel)
theorem wF_X7_34 : Cond.fieldLink RX7 34 RX7 "saved" "[Z" ∈ big := big_t 205 (by decide +kernel) (by decide +kernel)
theorem wF_X7_41 : Cond.fieldLink RX7 41 RX7 "pad" "LPickupYard$Pad;" ∈ big := big_t 206 (by decide +kernel) (by decide +kernel)
theorem wF_X7_45 : Cond.fieldLink RX7 45 RX7 "list" "[I" ∈ big := big_t 207 (by decide +kernel) (by decide +kernel)
theorem wM_L_117 : Cond.methodLink RL 117 yX7_set ∈ big := big_t 223 (by decide +kernel) (by decide +kernel)
theorem wI_X7_set : Cond.instanceMethod yX7_set ∈ big := big_t 224 (by decide +kernel) (by decide +kernel)
theorem wS_X7_set : Cond.selects RX7 yX7_set yX7_set ∈ big := big_t 225 (by decide +kernel) (by decide +kernel)
theorem wC_X7_set : Cond.code yX7_set cX7_set 3 (some .int) ∈ big := big_t 226 (by decide +kernel) (by decide +kernel)
theorem wM_X7_49 : Cond.methodLink RX7 49 yX1_note ∈ big := big_t 227 (by decide +kernel) (by decide +kernel)
theorem wI_X1_note : Cond.instanceMethod yX1_note ∈ big := big_t 228 (by decide +kernel) (by decide +kernel)
theorem wS_X1_note : Cond.selects RX1 yX1_note yX1_note ∈ big := big_t 229 (by decide +kernel) (by decide +kernel)
theorem wC_X1_note : Cond.code yX1_note cX1_note 2 none ∈ big := big_t 230 (by decide +kernel) (by decide +kernel)
theorem wM_X1_22 : Cond.methodLink RX1 22 yX6_copyFrom ∈ big := big_t 231 (by decide +kernel) (by decide +kernel)
theorem wI_X6_copyFrom : Cond.instanceMethod yX6_copyFrom ∈ big := big_t 232 (by decide +kernel) (by decide +kernel)
theorem wS_X6_copyFrom : Cond.selects RX6 yX6_copyFrom yX6_copyFrom ∈ big := big_t 233 (by decide +kernel) (by decide +kernel)
theorem wC_X6_copyFrom : Cond.code yX6_copyFrom cX6_copyFrom 2 none ∈ big := big_t 234 (by decide +kernel) (by decide +kernel)
theorem wM_X6_72 : Cond.methodLink RX6 72 arraycopyName ∈ big := big_t 235 (by decide +kernel) (by decide +kernel)
theorem wT_arraycopyName : Cond.static arraycopyName ∈ big := big_t 236 (by decide +kernel) (by decide +kernel)
theorem wNat_copy : Cond.native arraycopyName ∈ big := big_t 237 (by decide +kernel) (by decide +kernel)
theorem wM_X6_81 : Cond.methodLink RX6 81 yX5_copyFrom ∈ big := big_t 238 (by decide +kernel) (by decide +kernel)
theorem wI_X5_copyFrom : Cond.instanceMethod yX5_copyFrom ∈ big := big_t 239 (by decide +kernel) (by decide +kernel)
theorem wS_X5_copyFrom : Cond.selects RX5 yX5_copyFrom yX5_copyFrom ∈ big := big_t 240 (by decide +kernel) (by decide +kernel)
theorem wC_X5_copyFrom : Cond.code yX5_copyFrom cX5_copyFrom 2 none ∈ big := big_t 241 (by decide +kernel) (by decide +kernel)
theorem wM_X5_34 : Cond.methodLink RX5 34 arraycopyName ∈ big := big_t 242 (by decide +kernel) (by decide +kernel)
theorem wM_X6_85 : Cond.methodLink RX6 85 yX0_copyFrom ∈ big := big_t 243 (by decide +kernel) (by decide +kernel)
theorem wI_X0_copyFrom : Cond.instanceMethod yX0_copyFrom ∈ big := big_t 244 (by decide +kernel) (by decide +kernel)
theorem wS_X0_copyFrom : Cond.selects RX0 yX0_copyFrom yX0_copyFrom ∈ big := big_t 245 (by decide +kernel) (by decide +kernel)
theorem wC_X0_copyFrom : Cond.code yX0_copyFrom cX0_copyFrom 2 none ∈ big := big_t 246 (by decide +kernel) (by decide +kernel)
theorem wM_X0_22 : Cond.methodLink RX0 22 arraycopyName ∈ big := big_t 247 (by decide +kernel) (by decide +kernel)
theorem wM_X6_88 : Cond.methodLink RX6 88 yX3_copyFrom ∈ big := big_t 248 (by decide +kernel) (by decide +kernel)
theorem wI_X3_copyFrom : Cond.instanceMethod yX3_copyFrom ∈ big := big_t 249 (by decide +kernel) (by decide +kernel)
theorem wS_X3_copyFrom : Cond.selects RX3 yX3_copyFrom yX3_copyFrom ∈ big := big_t 250 (by decide +kernel) (by decide +kernel)
theorem wC_X3_copyFrom : Cond.code yX3_copyFrom cX3_copyFrom 2 none ∈ big := big_t 251 (by decide +kernel) (by decide +kernel)
theorem wM_X3_25 : Cond.methodLink RX3 25 arraycopyName ∈ big := big_t 252 (by decide +kernel) (by decide +kernel)
theorem wM_X7_53 : Cond.methodLink RX7 53 yX6_changeSetting ∈ big := big_t 253 (by decide +kernel) (by decide +kernel)
theorem wI_X6_changeSetting : Cond.instanceMethod yX6_changeSetting ∈ big := big_t 254 (by decide +kernel) (by decide +kernel)
theorem wS_X6_changeSetting : Cond.selects RX6 yX6_changeSetting yX6_changeSetting ∈ big := big_t 255 (by decide +kernel) (by decide +kernel)
theorem wC_X6_changeSetting : Cond.code yX6_changeSetting cX6_changeSetting 4 (some .int) ∈ big := big_t 256 (by decide +kernel) (by decide +kernel)
theorem wM_X7_57 : Cond.methodLink RX7 57 yX1_kept ∈ big := big_t 261 (by decide +kernel) (by decide +kernel)
theorem wI_X1_kept : Cond.instanceMethod yX1_kept ∈ big := big_t 262 (by decide +kernel) (by decide +kernel)
theorem wS_X1_kept : Cond.selects RX1 yX1_kept yX1_kept ∈ big := big_t 263 (by decide +kernel) (by decide +kernel)
theorem wC_X1_kept : Cond.code yX1_kept cX1_kept 2 (some .int) ∈ big := big_t 264 (by decide +kernel) (by decide +kernel)
theorem wM_X1_26 : Cond.methodLink RX1 26 yX1_dropOldest ∈ big := big_t 265 (by decide +kernel) (by decide +kernel)
theorem wI_X1_dropOldest : Cond.instanceMethod yX1_dropOldest ∈ big := big_t 267 (by decide +kernel) (by decide +kernel)
theorem wC_X1_dropOldest : Cond.code yX1_dropOldest cX1_dropOldest 3 none ∈ big := big_t 268 (by decide +kernel) (by decide +kernel)
theorem wM_L_120 : Cond.methodLink RL 120 yX7_track ∈ big := big_t 269 (by decide +kernel) (by decide +kernel)
theorem wI_X7_track : Cond.instanceMethod yX7_track ∈ big := big_t 270 (by decide +kernel) (by decide +kernel)
theorem wS_X7_track : Cond.selects RX7 yX7_track yX7_track ∈ big := big_t 271 (by decide +kernel) (by decide +kernel)
theorem wC_X7_track : Cond.code yX7_track cX7_track 2 (some .int) ∈ big := big_t 272 (by decide +kernel) (by decide +kernel)
theorem wM_X7_61 : Cond.methodLink RX7 61 yX6_addTrack ∈ big := big_t 273 (by decide +kernel) (by decide +kernel)
theorem wI_X6_addTrack : Cond.instanceMethod yX6_addTrack ∈ big := big_t 274 (by decide +kernel) (by decide +kernel)
theorem wS_X6_addTrack : Cond.selects RX6 yX6_addTrack yX6_addTrack ∈ big := big_t 275 (by decide +kernel) (by decide +kernel)
theorem wC_X6_addTrack : Cond.code yX6_addTrack cX6_addTrack 2 (some .int) ∈ big := big_t 276 (by decide +kernel) (by decide +kernel)
theorem wM_L_81 : Cond.methodLink RL 81 yL_cell ∈ big := big_t 277 (by decide +kernel) (by decide +kernel)
theorem wT_L_cell : Cond.static yL_cell ∈ big := big_t 278 (by decide +kernel) (by decide +kernel)
theorem wC_L_cell : Cond.code yL_cell cL_cell 3 (some .int) ∈ big := big_t 279 (by decide +kernel) (by decide +kernel)
theorem wK_L_7 : Cond.constant RL 7 4194303 ∈ big := big_t 280 (by decide +kernel) (by decide +kernel)
theorem wM_L_127 : Cond.methodLink RL 127 yL_agree ∈ big := big_t 281 (by decide +kernel) (by decide +kernel)
theorem wT_L_agree : Cond.static yL_agree ∈ big := big_t 282 (by decide +kernel) (by decide +kernel)
theorem wC_L_agree : Cond.code yL_agree cL_agree 7 (some .boolean) ∈ big := big_t 283 (by decide +kernel) (by decide +kernel)
theorem wM_L_24 : Cond.methodLink RL 24 yL_row ∈ big := big_t 284 (by decide +kernel) (by decide +kernel)
theorem wT_L_row : Cond.static yL_row ∈ big := big_t 285 (by decide +kernel) (by decide +kernel)
theorem wC_L_row : Cond.code yL_row cL_row 5 (some .int) ∈ big := big_t 286 (by decide +kernel) (by decide +kernel)
theorem wM_L_8 : Cond.methodLink RL 8 yX7_count ∈ big := big_t 287 (by decide +kernel) (by decide +kernel)
theorem wI_X7_count : Cond.instanceMethod yX7_count ∈ big := big_t 288 (by decide +kernel) (by decide +kernel)
theorem wS_X7_count : Cond.selects RX7 yX7_count yX7_count ∈ big := big_t 289 (by decide +kernel) (by decide +kernel)
theorem wC_X7_count : Cond.code yX7_count cX7_count 2 (some .int) ∈ big := big_t 290 (by decide +kernel) (by decide +kernel)
theorem wM_X7_128 : Cond.methodLink RX7 128 yX6_aboutYard ∈ big := big_t 291 (by decide +kernel) (by decide +kernel)
theorem wI_X6_aboutYard : Cond.instanceMethod yX6_aboutYard ∈ big := big_t 292 (by decide +kernel) (by decide +kernel)
theorem wS_X6_aboutYard : Cond.selects RX6 yX6_aboutYard yX6_aboutYard ∈ big := big_t 293 (by decide +kernel) (by decide +kernel)
theorem wC_X6_aboutYard : Cond.code yX6_aboutYard cX6_aboutYard 2 (some .int) ∈ big := big_t 294 (by decide +kernel) (by decide +kernel)
theorem wM_X6_121 : Cond.methodLink RX6 121 yX5_manyIn ∈ big := big_t 295 (by decide +kernel) (by decide +kernel)
theorem wI_X5_manyIn : Cond.instanceMethod yX5_manyIn ∈ big := big_t 296 (by decide +kernel) (by decide +kernel)
theorem wS_X5_manyIn : Cond.selects RX5 yX5_manyIn yX5_manyIn ∈ big := big_t 297 (by decide +kernel) (by decide +kernel)
theorem wC_X5_manyIn : Cond.code yX5_manyIn cX5_manyIn 2 (some .int) ∈ big := big_t 298 (by decide +kernel) (by decide +kernel)
theorem wM_X6_104 : Cond.methodLink RX6 104 yX5_lengthOfRow ∈ big := big_t 299 (by decide +kernel) (by decide +kernel)
theorem wI_X5_lengthOfRow : Cond.instanceMethod yX5_lengthOfRow ∈ big := big_t 300 (by decide +kernel) (by decide +kernel)
theorem wS_X5_lengthOfRow : Cond.selects RX5 yX5_lengthOfRow yX5_lengthOfRow ∈ big := big_t 301 (by decide +kernel) (by decide +kernel)
theorem wC_X5_lengthOfRow : Cond.code yX5_lengthOfRow cX5_lengthOfRow 4 (some .int) ∈ big := big_t 302 (by decide +kernel) (by decide +kernel)
theorem wM_L_14 : Cond.methodLink RL 14 yX7_ofTrack ∈ big := big_t 303 (by decide +kernel) (by decide +kernel)
theorem wI_X7_ofTrack : Cond.instanceMethod yX7_ofTrack ∈ big := big_t 304 (by decide +kernel) (by decide +kernel)
theorem wS_X7_ofTrack : Cond.selects RX7 yX7_ofTrack yX7_ofTrack ∈ big := big_t 305 (by decide +kernel) (by decide +kernel)
theorem wC_X7_ofTrack : Cond.code yX7_ofTrack cX7_ofTrack 3 (some .int) ∈ big := big_t 306 (by decide +kernel) (by decide +kernel)
theorem wM_X7_99 : Cond.methodLink RX7 99 yX6_aboutTrack ∈ big := big_t 307 (by decide +kernel) (by decide +kernel)
theorem wI_X6_aboutTrack : Cond.instanceMethod yX6_aboutTrack ∈ big := big_t 308 (by decide +kernel) (by decide +kernel)
theorem wS_X6_aboutTrack : Cond.selects RX6 yX6_aboutTrack yX6_aboutTrack ∈ big := big_t 309 (by decide +kernel) (by decide +kernel)
theorem wC_X6_aboutTrack : Cond.code yX6_aboutTrack cX6_aboutTrack 3 (some .int) ∈ big := big_t 310 (by decide +kernel) (by decide +kernel)
theorem wM_X6_97 : Cond.methodLink RX6 97 yX6_hasTrack ∈ big := big_t 311 (by decide +kernel) (by decide +kernel)
theorem wI_X6_hasTrack : Cond.instanceMethod yX6_hasTrack ∈ big := big_t 312 (by decide +kernel) (by decide +kernel)
theorem wS_X6_hasTrack : Cond.selects RX6 yX6_hasTrack yX6_hasTrack ∈ big := big_t 313 (by decide +kernel) (by decide +kernel)
theorem wC_X6_hasTrack : Cond.code yX6_hasTrack cX6_hasTrack 2 (some .boolean) ∈ big := big_t 314 (by decide +kernel) (by decide +kernel)
theorem wM_L_18 : Cond.methodLink RL 18 yX7_at ∈ big := big_t 315 (by decide +kernel) (by decide +kernel)
theorem wI_X7_at : Cond.instanceMethod yX7_at ∈ big := big_t 316 (by decide +kernel) (by decide +kernel)
theorem wS_X7_at : Cond.selects RX7 yX7_at yX7_at ∈ big := big_t 317 (by decide +kernel) (by decide +kernel)
theorem wC_X7_at : Cond.code yX7_at cX7_at 3 (some .int) ∈ big := big_t 318 (by decide +kernel) (by decide +kernel)
theorem wM_X7_106 : Cond.methodLink RX7 106 yX5_wagonAt ∈ big := big_t 319 (by decide +kernel) (by decide +kernel)
theorem wI_X5_wagonAt : Cond.instanceMethod yX5_wagonAt ∈ big := big_t 320 (by decide +kernel) (by decide +kernel)
theorem wS_X5_wagonAt : Cond.selects RX5 yX5_wagonAt yX5_wagonAt ∈ big := big_t 321 (by decide +kernel) (by decide +kernel)
theorem wC_X5_wagonAt : Cond.code yX5_wagonAt cX5_wagonAt 4 (some .int) ∈ big := big_t 322 (by decide +kernel) (by decide +kernel)
theorem wM_X7_111 : Cond.methodLink RX7 111 yX6_hasTrack ∈ big := big_t 323 (by decide +kernel) (by decide +kernel)
theorem wM_L_30 : Cond.methodLink RL 30 yL_lengths ∈ big := big_t 324 (by decide +kernel) (by decide +kernel)
theorem wT_L_lengths : Cond.static yL_lengths ∈ big := big_t 325 (by decide +kernel) (by decide +kernel)
theorem wC_L_lengths : Cond.code yL_lengths cL_lengths 6 (some .int) ∈ big := big_t 326 (by decide +kernel) (by decide +kernel)
theorem wM_L_21 : Cond.methodLink RL 21 yX7_ofWagon ∈ big := big_t 327 (by decide +kernel) (by decide +kernel)
theorem wI_X7_ofWagon : Cond.instanceMethod yX7_ofWagon ∈ big := big_t 328 (by decide +kernel) (by decide +kernel)
theorem wS_X7_ofWagon : Cond.selects RX7 yX7_ofWagon yX7_ofWagon ∈ big := big_t 329 (by decide +kernel) (by decide +kernel)
theorem wC_X7_ofWagon : Cond.code yX7_ofWagon cX7_ofWagon 3 (some .int) ∈ big := big_t 330 (by decide +kernel) (by decide +kernel)
theorem wM_X7_115 : Cond.methodLink RX7 115 yX6_aboutWagon ∈ big := big_t 331 (by decide +kernel) (by decide +kernel)
theorem wI_X6_aboutWagon : Cond.instanceMethod yX6_aboutWagon ∈ big := big_t 332 (by decide +kernel) (by decide +kernel)
theorem wS_X6_aboutWagon : Cond.selects RX6 yX6_aboutWagon yX6_aboutWagon ∈ big := big_t 333 (by decide +kernel) (by decide +kernel)
theorem wC_X6_aboutWagon : Cond.code yX6_aboutWagon cX6_aboutWagon 5 (some .int) ∈ big := big_t 334 (by decide +kernel) (by decide +kernel)
theorem wM_X6_171 : Cond.methodLink RX6 171 yX5_rowOf ∈ big := big_t 335 (by decide +kernel) (by decide +kernel)
theorem wI_X5_rowOf : Cond.instanceMethod yX5_rowOf ∈ big := big_t 336 (by decide +kernel) (by decide +kernel)
theorem wS_X5_rowOf : Cond.selects RX5 yX5_rowOf yX5_rowOf ∈ big := big_t 337 (by decide +kernel) (by decide +kernel)
theorem wC_X5_rowOf : Cond.code yX5_rowOf cX5_rowOf 3 (some .int) ∈ big := big_t 338 (by decide +kernel) (by decide +kernel)
theorem wM_X5_40 : Cond.methodLink RX5 40 yX5_placeIn ∈ big := big_t 339 (by decide +kernel) (by decide +kernel)
theorem wI_X5_placeIn : Cond.instanceMethod yX5_placeIn ∈ big := big_t 340 (by decide +kernel) (by decide +kernel)
theorem wS_X5_placeIn : Cond.selects RX5 yX5_placeIn yX5_placeIn ∈ big := big_t 341 (by decide +kernel) (by decide +kernel)
theorem wC_X5_placeIn : Cond.code yX5_placeIn cX5_placeIn 5 (some .int) ∈ big := big_t 342 (by decide +kernel) (by decide +kernel)
theorem wM_X6_209 : Cond.methodLink RX6 209 yX5_placeIn ∈ big := big_t 343 (by decide +kernel) (by decide +kernel)
theorem wM_X6_165 : Cond.methodLink RX6 165 yX3_trainOf ∈ big := big_t 344 (by decide +kernel) (by decide +kernel)
theorem wI_X3_trainOf : Cond.instanceMethod yX3_trainOf ∈ big := big_t 345 (by decide +kernel) (by decide +kernel)
theorem wS_X3_trainOf : Cond.selects RX3 yX3_trainOf yX3_trainOf ∈ big := big_t 346 (by decide +kernel) (by decide +kernel)
theorem wC_X3_trainOf : Cond.code yX3_trainOf cX3_trainOf 4 (some .int) ∈ big := big_t 347 (by decide +kernel) (by decide +kernel)
theorem wM_L_96 : Cond.methodLink RL 96 yL_isWagon ∈ big := big_t 348 (by decide +kernel) (by decide +kernel)
theorem wT_L_isWagon : Cond.static yL_isWagon ∈ big := big_t 349 (by decide +kernel) (by decide +kernel)
theorem wC_L_isWagon : Cond.code yL_isWagon cL_isWagon 7 (some .boolean) ∈ big := big_t 350 (by decide +kernel) (by decide +kernel)
theorem wM_L_54 : Cond.methodLink RL 54 yX7_wagon ∈ big := big_t 351 (by decide +kernel) (by decide +kernel)
theorem wI_X7_wagon : Cond.instanceMethod yX7_wagon ∈ big := big_t 352 (by decide +kernel) (by decide +kernel)
theorem wS_X7_wagon : Cond.selects RX7 yX7_wagon yX7_wagon ∈ big := big_t 353 (by decide +kernel) (by decide +kernel)
theorem wC_X7_wagon : Cond.code yX7_wagon cX7_wagon 3 (some .int) ∈ big := big_t 354 (by decide +kernel) (by decide +kernel)
theorem wM_X7_64 : Cond.methodLink RX7 64 yX6_addWagon ∈ big := big_t 355 (by decide +kernel) (by decide +kernel)
theorem wI_X6_addWagon : Cond.instanceMethod yX6_addWagon ∈ big := big_t 356 (by decide +kernel) (by decide +kernel)
theorem wS_X6_addWagon : Cond.selects RX6 yX6_addWagon yX6_addWagon ∈ big := big_t 357 (by decide +kernel) (by decide +kernel)
theorem wC_X6_addWagon : Cond.code yX6_addWagon cX6_addWagon 3 (some .int) ∈ big := big_t 358 (by decide +kernel) (by decide +kernel)
theorem wM_X6_108 : Cond.methodLink RX6 108 yX5_add ∈ big := big_t 359 (by decide +kernel) (by decide +kernel)
theorem wI_X5_add : Cond.instanceMethod yX5_add ∈ big := big_t 360 (by decide +kernel) (by decide +kernel)
theorem wS_X5_add : Cond.selects RX5 yX5_add yX5_add ∈ big := big_t 361 (by decide +kernel) (by decide +kernel)
theorem wC_X5_add : Cond.code yX5_add cX5_add 3 (some .int) ∈ big := big_t 362 (by decide +kernel) (by decide +kernel)
theorem wM_L_123 : Cond.methodLink RL 123 yL_isAct ∈ big := big_t 363 (by decide +kernel) (by decide +kernel)
theorem wT_L_isAct : Cond.static yL_isAct ∈ big := big_t 364 (by decide +kernel) (by decide +kernel)
theorem wC_L_isAct : Cond.code yL_isAct cL_isAct 6 (some .boolean) ∈ big := big_t 365 (by decide +kernel) (by decide +kernel)
theorem wM_L_85 : Cond.methodLink RL 85 yL_isPulled ∈ big := big_t 366 (by decide +kernel) (by decide +kernel)
theorem wT_L_isPulled : Cond.static yL_isPulled ∈ big := big_t 367 (by decide +kernel) (by decide +kernel)
theorem wC_L_isPulled : Cond.code yL_isPulled cL_isPulled 19 (some .boolean) ∈ big := big_t 368 (by decide +kernel) (by decide +kernel)
theorem wM_L_34 : Cond.methodLink RL 34 yX7_pull ∈ big := big_t 369 (by decide +kernel) (by decide +kernel)
theorem wI_X7_pull : Cond.instanceMethod yX7_pull ∈ big := big_t 370 (by decide +kernel) (by decide +kernel)
theorem wS_X7_pull : Cond.selects RX7 yX7_pull yX7_pull ∈ big := big_t 371 (by decide +kernel) (by decide +kernel)
theorem wC_X7_pull : Cond.code yX7_pull cX7_pull 3 (some .int) ∈ big := big_t 372 (by decide +kernel) (by decide +kernel)
theorem wM_X7_70 : Cond.methodLink RX7 70 yX6_takeOut ∈ big := big_t 373 (by decide +kernel) (by decide +kernel)
theorem wI_X6_takeOut : Cond.instanceMethod yX6_takeOut ∈ big := big_t 374 (by decide +kernel) (by decide +kernel)
theorem wS_X6_takeOut : Cond.selects RX6 yX6_takeOut yX6_takeOut ∈ big := big_t 375 (by decide +kernel) (by decide +kernel)
theorem wC_X6_takeOut : Cond.code yX6_takeOut cX6_takeOut 3 (some .int) ∈ big := big_t 376 (by decide +kernel) (by decide +kernel)
theorem wM_X6_114 : Cond.methodLink RX6 114 yX6_canTakeOut ∈ big := big_t 377 (by decide +kernel) (by decide +kernel)
theorem wI_X6_canTakeOut : Cond.instanceMethod yX6_canTakeOut ∈ big := big_t 378 (by decide +kernel) (by decide +kernel)
theorem wS_X6_canTakeOut : Cond.selects RX6 yX6_canTakeOut yX6_canTakeOut ∈ big := big_t 379 (by decide +kernel) (by decide +kernel)
theorem wC_X6_canTakeOut : Cond.code yX6_canTakeOut cX6_canTakeOut 3 (some .boolean) ∈ big := big_t 380 (by decide +kernel) (by decide +kernel)
theorem wM_X6_124 : Cond.methodLink RX6 124 yX5_lengthOfLast ∈ big := big_t 381 (by decide +kernel) (by decide +kernel)
theorem wI_X5_lengthOfLast : Cond.instanceMethod yX5_lengthOfLast ∈ big := big_t 382 (by decide +kernel) (by decide +kernel)
theorem wS_X5_lengthOfLast : Cond.selects RX5 yX5_lengthOfLast yX5_lengthOfLast ∈ big := big_t 383 (by decide +kernel) (by decide +kernel)
theorem wC_X5_lengthOfLast : Cond.code yX5_lengthOfLast cX5_lengthOfLast 6 (some .int) ∈ big := big_t 384 (by decide +kernel) (by decide +kernel)
theorem wM_X6_118 : Cond.methodLink RX6 118 yX6_drawOut ∈ big := big_t 385 (by decide +kernel) (by decide +kernel)
theorem wI_X6_drawOut : Cond.instanceMethod yX6_drawOut ∈ big := big_t 386 (by decide +kernel) (by decide +kernel)
theorem wS_X6_drawOut : Cond.selects RX6 yX6_drawOut yX6_drawOut ∈ big := big_t 387 (by decide +kernel) (by decide +kernel)
theorem wC_X6_drawOut : Cond.code yX6_drawOut cX6_drawOut 3 (some .int) ∈ big := big_t 388 (by decide +kernel) (by decide +kernel)
theorem wM_X6_127 : Cond.methodLink RX6 127 yX5_shift ∈ big := big_t 389 (by decide +kernel) (by decide +kernel)
theorem wI_X5_shift : Cond.instanceMethod yX5_shift ∈ big := big_t 390 (by decide +kernel) (by decide +kernel)
theorem wS_X5_shift : Cond.selects RX5 yX5_shift yX5_shift ∈ big := big_t 391 (by decide +kernel) (by decide +kernel)
theorem wC_X5_shift : Cond.code yX5_shift cX5_shift 6 none ∈ big := big_t 392 (by decide +kernel) (by decide +kernel)
theorem wM_X5_44 : Cond.methodLink RX5 44 Lib.Math.min.name ∈ big := big_t 393 (by decide +kernel) (by decide +kernel)
theorem wT_min : Cond.static Lib.Math.min.name ∈ big := big_t 394 (by decide +kernel) (by decide +kernel)
theorem wC_min : Cond.code Lib.Math.min.name Lib.Math.min.code 2 (some .int) ∈ big := big_t 395 (by decide +kernel) (by decide +kernel)
theorem wM_X6_131 : Cond.methodLink RX6 131 yX5_notePulled ∈ big := big_t 396 (by decide +kernel) (by decide +kernel)
theorem wI_X5_notePulled : Cond.instanceMethod yX5_notePulled ∈ big := big_t 397 (by decide +kernel) (by decide +kernel)
theorem wS_X5_notePulled : Cond.selects RX5 yX5_notePulled yX5_notePulled ∈ big := big_t 398 (by decide +kernel) (by decide +kernel)
theorem wC_X5_notePulled : Cond.code yX5_notePulled cX5_notePulled 4 none ∈ big := big_t 399 (by decide +kernel) (by decide +kernel)
theorem wM_X6_135 : Cond.methodLink RX6 135 yX6_makeMove ∈ big := big_t 400 (by decide +kernel) (by decide +kernel)
theorem wI_X6_makeMove : Cond.instanceMethod yX6_makeMove ∈ big := big_t 402 (by decide +kernel) (by decide +kernel)
theorem wC_X6_makeMove : Cond.code yX6_makeMove cX6_makeMove 5 none ∈ big := big_t 403 (by decide +kernel) (by decide +kernel)
theorem wM_X6_149 : Cond.methodLink RX6 149 yX0_firstFree ∈ big := big_t 404 (by decide +kernel) (by decide +kernel)
theorem wI_X0_firstFree : Cond.instanceMethod yX0_firstFree ∈ big := big_t 405 (by decide +kernel) (by decide +kernel)
theorem wS_X0_firstFree : Cond.selects RX0 yX0_firstFree yX0_firstFree ∈ big := big_t 406 (by decide +kernel) (by decide +kernel)
theorem wC_X0_firstFree : Cond.code yX0_firstFree cX0_firstFree 6 (some .int) ∈ big := big_t 407 (by decide +kernel) (by decide +kernel)
theorem wM_X6_152 : Cond.methodLink RX6 152 yX6_comeTo ∈ big := big_t 408 (by decide +kernel) (by decide +kernel)
theorem wI_X6_comeTo : Cond.instanceMethod yX6_comeTo ∈ big := big_t 410 (by decide +kernel) (by decide +kernel)
theorem wC_X6_comeTo : Cond.code yX6_comeTo cX6_comeTo 2 none ∈ big := big_t 411 (by decide +kernel) (by decide +kernel)
theorem wM_X6_155 : Cond.methodLink RX6 155 yX0_dropEnded ∈ big := big_t 412 (by decide +kernel) (by decide +kernel)
theorem wI_X0_dropEnded : Cond.instanceMethod yX0_dropEnded ∈ big := big_t 413 (by decide +kernel) (by decide +kernel)
theorem wS_X0_dropEnded : Cond.selects RX0 yX0_dropEnded yX0_dropEnded ∈ big := big_t 414 (by decide +kernel) (by decide +kernel)
theorem wC_X0_dropEnded : Cond.code yX0_dropEnded cX0_dropEnded 4 none ∈ big := big_t 415 (by decide +kernel) (by decide +kernel)
theorem wM_L_37 : Cond.methodLink RL 37 yX7_freeFrom ∈ big := big_t 416 (by decide +kernel) (by decide +kernel)
theorem wI_X7_freeFrom : Cond.instanceMethod yX7_freeFrom ∈ big := big_t 417 (by decide +kernel) (by decide +kernel)
theorem wS_X7_freeFrom : Cond.selects RX7 yX7_freeFrom yX7_freeFrom ∈ big := big_t 418 (by decide +kernel) (by decide +kernel)
theorem wC_X7_freeFrom : Cond.code yX7_freeFrom cX7_freeFrom 2 (some .int) ∈ big := big_t 419 (by decide +kernel) (by decide +kernel)
theorem wM_X7_138 : Cond.methodLink RX7 138 yX0_firstFree ∈ big := big_t 420 (by decide +kernel) (by decide +kernel)
theorem wM_L_40 : Cond.methodLink RL 40 yL_isTimed ∈ big := big_t 421 (by decide +kernel) (by decide +kernel)
theorem wT_L_isTimed : Cond.static yL_isTimed ∈ big := big_t 422 (by decide +kernel) (by decide +kernel)
theorem wC_L_isTimed : Cond.code yL_isTimed cL_isTimed 8 (some .boolean) ∈ big := big_t 423 (by decide +kernel) (by decide +kernel)
theorem wM_L_89 : Cond.methodLink RL 89 yL_isPushed ∈ big := big_t 424 (by decide +kernel) (by decide +kernel)
theorem wT_L_isPushed : Cond.static yL_isPushed ∈ big := big_t 425 (by decide +kernel) (by decide +kernel)
theorem wC_L_isPushed : Cond.code yL_isPushed cL_isPushed 19 (some .boolean) ∈ big := big_t 426 (by decide +kernel) (by decide +kernel)
theorem wM_L_44 : Cond.methodLink RL 44 yX7_push ∈ big := big_t 427 (by decide +kernel) (by decide +kernel)
theorem wI_X7_push : Cond.instanceMethod yX7_push ∈ big := big_t 428 (by decide +kernel) (by decide +kernel)
theorem wS_X7_push : Cond.selects RX7 yX7_push yX7_push ∈ big := big_t 429 (by decide +kernel) (by decide +kernel)
theorem wC_X7_push : Cond.code yX7_push cX7_push 3 (some .int) ∈ big := big_t 430 (by decide +kernel) (by decide +kernel)
theorem wM_X7_73 : Cond.methodLink RX7 73 yX6_bringIn ∈ big := big_t 431 (by decide +kernel) (by decide +kernel)
theorem wI_X6_bringIn : Cond.instanceMethod yX6_bringIn ∈ big := big_t 432 (by decide +kernel) (by decide +kernel)
theorem wS_X6_bringIn : Cond.selects RX6 yX6_bringIn yX6_bringIn ∈ big := big_t 433 (by decide +kernel) (by decide +kernel)
theorem wC_X6_bringIn : Cond.code yX6_bringIn cX6_bringIn 4 (some .int) ∈ big := big_t 434 (by decide +kernel) (by decide +kernel)
theorem wM_X6_139 : Cond.methodLink RX6 139 yX6_canBringIn ∈ big := big_t 435 (by decide +kernel) (by decide +kernel)
theorem wI_X6_canBringIn : Cond.instanceMethod yX6_canBringIn ∈ big := big_t 436 (by decide +kernel) (by decide +kernel)
theorem wS_X6_canBringIn : Cond.selects RX6 yX6_canBringIn yX6_canBringIn ∈ big := big_t 437 (by decide +kernel) (by decide +kernel)
theorem wC_X6_canBringIn : Cond.code yX6_canBringIn cX6_canBringIn 3 (some .boolean) ∈ big := big_t 438 (by decide +kernel) (by decide +kernel)
theorem wM_L_47 : Cond.methodLink RL 47 yX7_roomFor ∈ big := big_t 439 (by decide +kernel) (by decide +kernel)
theorem wI_X7_roomFor : Cond.instanceMethod yX7_roomFor ∈ big := big_t 440 (by decide +kernel) (by decide +kernel)
theorem wS_X7_roomFor : Cond.selects RX7 yX7_roomFor yX7_roomFor ∈ big := big_t 441 (by decide +kernel) (by decide +kernel)
theorem wC_X7_roomFor : Cond.code yX7_roomFor cX7_roomFor 1 (some .int) ∈ big := big_t 442 (by decide +kernel) (by decide +kernel)
theorem wM_X7_162 : Cond.methodLink RX7 162 yX5_manyIn ∈ big := big_t 443 (by decide +kernel) (by decide +kernel)
theorem wM_X7_165 : Cond.methodLink RX7 165 yX6_tracksFor ∈ big := big_t 444 (by decide +kernel) (by decide +kernel)
theorem wI_X6_tracksFor : Cond.instanceMethod yX6_tracksFor ∈ big := big_t 445 (by decide +kernel) (by decide +kernel)
theorem wS_X6_tracksFor : Cond.selects RX6 yX6_tracksFor yX6_tracksFor ∈ big := big_t 446 (by decide +kernel) (by decide +kernel)
theorem wC_X6_tracksFor : Cond.code yX6_tracksFor cX6_tracksFor 4 (some .int) ∈ big := big_t 447 (by decide +kernel) (by decide +kernel)
theorem wM_L_92 : Cond.methodLink RL 92 yL_isRound ∈ big := big_t 448 (by decide +kernel) (by decide +kernel)
theorem wT_L_isRound : Cond.static yL_isRound ∈ big := big_t 449 (by decide +kernel) (by decide +kernel)
theorem wC_L_isRound : Cond.code yL_isRound cL_isRound 12 (some .boolean) ∈ big := big_t 450 (by decide +kernel) (by decide +kernel)
theorem wM_L_51 : Cond.methodLink RL 51 yX7_round ∈ big := big_t 451 (by decide +kernel) (by decide +kernel)
theorem wI_X7_round : Cond.instanceMethod yX7_round ∈ big := big_t 452 (by decide +kernel) (by decide +kernel)
theorem wS_X7_round : Cond.selects RX7 yX7_round yX7_round ∈ big := big_t 453 (by decide +kernel) (by decide +kernel)
theorem wC_X7_round : Cond.code yX7_round cX7_round 1 (some .int) ∈ big := big_t 454 (by decide +kernel) (by decide +kernel)
theorem wM_X7_76 : Cond.methodLink RX7 76 yX6_goRound ∈ big := big_t 455 (by decide +kernel) (by decide +kernel)
theorem wI_X6_goRound : Cond.instanceMethod yX6_goRound ∈ big := big_t 456 (by decide +kernel) (by decide +kernel)
theorem wS_X6_goRound : Cond.selects RX6 yX6_goRound yX6_goRound ∈ big := big_t 457 (by decide +kernel) (by decide +kernel)
theorem wC_X6_goRound : Cond.code yX6_goRound cX6_goRound 1 (some .int) ∈ big := big_t 458 (by decide +kernel) (by decide +kernel)
theorem wM_X6_142 : Cond.methodLink RX6 142 yX6_canGoRound ∈ big := big_t 459 (by decide +kernel) (by decide +kernel)
theorem wI_X6_canGoRound : Cond.instanceMethod yX6_canGoRound ∈ big := big_t 460 (by decide +kernel) (by decide +kernel)
theorem wS_X6_canGoRound : Cond.selects RX6 yX6_canGoRound yX6_canGoRound ∈ big := big_t 461 (by decide +kernel) (by decide +kernel)
theorem wC_X6_canGoRound : Cond.code yX6_canGoRound cX6_canGoRound 1 (some .boolean) ∈ big := big_t 462 (by decide +kernel) (by decide +kernel)
theorem wM_X6_146 : Cond.methodLink RX6 146 yX5_turnEngine ∈ big := big_t 463 (by decide +kernel) (by decide +kernel)
theorem wI_X5_turnEngine : Cond.instanceMethod yX5_turnEngine ∈ big := big_t 464 (by decide +kernel) (by decide +kernel)
theorem wS_X5_turnEngine : Cond.selects RX5 yX5_turnEngine yX5_turnEngine ∈ big := big_t 465 (by decide +kernel) (by decide +kernel)
theorem wC_X5_turnEngine : Cond.code yX5_turnEngine cX5_turnEngine 5 none ∈ big := big_t 466 (by decide +kernel) (by decide +kernel)
theorem wM_L_99 : Cond.methodLink RL 99 yL_isTrain ∈ big := big_t 467 (by decide +kernel) (by decide +kernel)
theorem wT_L_isTrain : Cond.static yL_isTrain ∈ big := big_t 468 (by decide +kernel) (by decide +kernel)
theorem wC_L_isTrain : Cond.code yL_isTrain cL_isTrain 15 (some .boolean) ∈ big := big_t 469 (by decide +kernel) (by decide +kernel)
theorem wK_L_57 : Cond.constantLong RL 57 31 ∈ big := big_t 470 (by decide +kernel) (by decide +kernel)
theorem wM_L_59 : Cond.methodLink RL 59 yX7_train ∈ big := big_t 471 (by decide +kernel) (by decide +kernel)
theorem wI_X7_train : Cond.instanceMethod yX7_train ∈ big := big_t 472 (by decide +kernel) (by decide +kernel)
theorem wS_X7_train : Cond.selects RX7 yX7_train yX7_train ∈ big := big_t 473 (by decide +kernel) (by decide +kernel)
theorem wC_X7_train : Cond.code yX7_train cX7_train 5 (some .int) ∈ big := big_t 474 (by decide +kernel) (by decide +kernel)
theorem wM_X7_83 : Cond.methodLink RX7 83 yX7_readList ∈ big := big_t 475 (by decide +kernel) (by decide +kernel)
theorem wI_X7_readList : Cond.instanceMethod yX7_readList ∈ big := big_t 477 (by decide +kernel) (by decide +kernel)
theorem wC_X7_readList : Cond.code yX7_readList cX7_readList 8 (some .int) ∈ big := big_t 478 (by decide +kernel) (by decide +kernel)
theorem wK_X7_91 : Cond.constantLong RX7 91 31 ∈ big := big_t 479 (by decide +kernel) (by decide +kernel)
theorem wM_X7_87 : Cond.methodLink RX7 87 yX6_addTrain ∈ big := big_t 480 (by decide +kernel) (by decide +kernel)
theorem wI_X6_addTrain : Cond.instanceMethod yX6_addTrain ∈ big := big_t 481 (by decide +kernel) (by decide +kernel)
theorem wS_X6_addTrain : Cond.selects RX6 yX6_addTrain yX6_addTrain ∈ big := big_t 482 (by decide +kernel) (by decide +kernel)
theorem wC_X6_addTrain : Cond.code yX6_addTrain cX6_addTrain 5 (some .int) ∈ big := big_t 483 (by decide +kernel) (by decide +kernel)
theorem wM_X6_158 : Cond.methodLink RX6 158 yX6_areThere ∈ big := big_t 484 (by decide +kernel) (by decide +kernel)
theorem wI_X6_areThere : Cond.instanceMethod yX6_areThere ∈ big := big_t 486 (by decide +kernel) (by decide +kernel)
theorem wC_X6_areThere : Cond.code yX6_areThere cX6_areThere 5 (some .boolean) ∈ big := big_t 487 (by decide +kernel) (by decide +kernel)
theorem wM_X6_168 : Cond.methodLink RX6 168 yX3_add ∈ big := big_t 488 (by decide +kernel) (by decide +kernel)
theorem wI_X3_add : Cond.instanceMethod yX3_add ∈ big := big_t 489 (by decide +kernel) (by decide +kernel)
theorem wS_X3_add : Cond.selects RX3 yX3_add yX3_add ∈ big := big_t 490 (by decide +kernel) (by decide +kernel)
theorem wC_X3_add : Cond.code yX3_add cX3_add 4 (some .int) ∈ big := big_t 491 (by decide +kernel) (by decide +kernel)
theorem wM_L_63 : Cond.methodLink RL 63 yX7_ofTrain ∈ big := big_t 492 (by decide +kernel) (by decide +kernel)
theorem wI_X7_ofTrain : Cond.instanceMethod yX7_ofTrain ∈ big := big_t 493 (by decide +kernel) (by decide +kernel)
theorem wS_X7_ofTrain : Cond.selects RX7 yX7_ofTrain yX7_ofTrain ∈ big := big_t 494 (by decide +kernel) (by decide +kernel)
theorem wC_X7_ofTrain : Cond.code yX7_ofTrain cX7_ofTrain 3 (some .int) ∈ big := big_t 495 (by decide +kernel) (by decide +kernel)
theorem wM_X7_118 : Cond.methodLink RX7 118 yX6_aboutTrain ∈ big := big_t 496 (by decide +kernel) (by decide +kernel)
theorem wI_X6_aboutTrain : Cond.instanceMethod yX6_aboutTrain ∈ big := big_t 497 (by decide +kernel) (by decide +kernel)
theorem wS_X6_aboutTrain : Cond.selects RX6 yX6_aboutTrain yX6_aboutTrain ∈ big := big_t 498 (by decide +kernel) (by decide +kernel)
theorem wC_X6_aboutTrain : Cond.code yX6_aboutTrain cX6_aboutTrain 3 (some .int) ∈ big := big_t 499 (by decide +kernel) (by decide +kernel)
theorem wM_X6_174 : Cond.methodLink RX6 174 yX3_has ∈ big := big_t 500 (by decide +kernel) (by decide +kernel)
theorem wI_X3_has : Cond.instanceMethod yX3_has ∈ big := big_t 501 (by decide +kernel) (by decide +kernel)
theorem wS_X3_has : Cond.selects RX3 yX3_has yX3_has ∈ big := big_t 502 (by decide +kernel) (by decide +kernel)
theorem wC_X3_has : Cond.code yX3_has cX3_has 2 (some .boolean) ∈ big := big_t 503 (by decide +kernel) (by decide +kernel)
theorem wM_X6_194 : Cond.methodLink RX6 194 yX3_sizeOf ∈ big := big_t 504 (by decide +kernel) (by decide +kernel)
theorem wI_X3_sizeOf : Cond.instanceMethod yX3_sizeOf ∈ big := big_t 505 (by decide +kernel) (by decide +kernel)
theorem wS_X3_sizeOf : Cond.selects RX3 yX3_sizeOf yX3_sizeOf ∈ big := big_t 506 (by decide +kernel) (by decide +kernel)
theorem wC_X3_sizeOf : Cond.code yX3_sizeOf cX3_sizeOf 2 (some .int) ∈ big := big_t 507 (by decide +kernel) (by decide +kernel)
theorem wM_X3_31 : Cond.methodLink RX3 31 yX3_has ∈ big := big_t 508 (by decide +kernel) (by decide +kernel)
theorem wM_X6_221 : Cond.methodLink RX6 221 yX6_lengthOfList ∈ big := big_t 509 (by decide +kernel) (by decide +kernel)
theorem wI_X6_lengthOfList : Cond.instanceMethod yX6_lengthOfList ∈ big := big_t 511 (by decide +kernel) (by decide +kernel)
theorem wC_X6_lengthOfList : Cond.code yX6_lengthOfList cX6_lengthOfList 5 (some .int) ∈ big := big_t 512 (by decide +kernel) (by decide +kernel)
theorem wM_X6_206 : Cond.methodLink RX6 206 yX3_wagonOf ∈ big := big_t 513 (by decide +kernel) (by decide +kernel)
theorem wI_X3_wagonOf : Cond.instanceMethod yX3_wagonOf ∈ big := big_t 514 (by decide +kernel) (by decide +kernel)
theorem wS_X3_wagonOf : Cond.selects RX3 yX3_wagonOf yX3_wagonOf ∈ big := big_t 515 (by decide +kernel) (by decide +kernel)
theorem wC_X3_wagonOf : Cond.code yX3_wagonOf cX3_wagonOf 4 (some .int) ∈ big := big_t 516 (by decide +kernel) (by decide +kernel)
theorem wM_X6_224 : Cond.methodLink RX6 224 yX5_lengthOfWagon ∈ big := big_t 517 (by decide +kernel) (by decide +kernel)
theorem wI_X5_lengthOfWagon : Cond.instanceMethod yX5_lengthOfWagon ∈ big := big_t 518 (by decide +kernel) (by decide +kernel)
theorem wS_X5_lengthOfWagon : Cond.selects RX5 yX5_lengthOfWagon yX5_lengthOfWagon ∈ big := big_t 519 (by decide +kernel) (by decide +kernel)
theorem wC_X5_lengthOfWagon : Cond.code yX5_lengthOfWagon cX5_lengthOfWagon 2 (some .int) ∈ big := big_t 520 (by decide +kernel) (by decide +kernel)
theorem wM_L_103 : Cond.methodLink RL 103 yL_isLeft ∈ big := big_t 521 (by decide +kernel) (by decide +kernel)
theorem wT_L_isLeft : Cond.static yL_isLeft ∈ big := big_t 522 (by decide +kernel) (by decide +kernel)
theorem wC_L_isLeft : Cond.code yL_isLeft cL_isLeft 10 (some .boolean) ∈ big := big_t 523 (by decide +kernel) (by decide +kernel)
theorem wM_L_66 : Cond.methodLink RL 66 yX7_leave ∈ big := big_t 524 (by decide +kernel) (by decide +kernel)
theorem wI_X7_leave : Cond.instanceMethod yX7_leave ∈ big := big_t 525 (by decide +kernel) (by decide +kernel)
theorem wS_X7_leave : Cond.selects RX7 yX7_leave yX7_leave ∈ big := big_t 526 (by decide +kernel) (by decide +kernel)
theorem wC_X7_leave : Cond.code yX7_leave cX7_leave 2 (some .int) ∈ big := big_t 527 (by decide +kernel) (by decide +kernel)
theorem wM_X7_96 : Cond.methodLink RX7 96 yX6_letLeave ∈ big := big_t 528 (by decide +kernel) (by decide +kernel)
theorem wI_X6_letLeave : Cond.instanceMethod yX6_letLeave ∈ big := big_t 529 (by decide +kernel) (by decide +kernel)
theorem wS_X6_letLeave : Cond.selects RX6 yX6_letLeave yX6_letLeave ∈ big := big_t 530 (by decide +kernel) (by decide +kernel)
theorem wC_X6_letLeave : Cond.code yX6_letLeave cX6_letLeave 3 (some .int) ∈ big := big_t 531 (by decide +kernel) (by decide +kernel)
theorem wM_X6_180 : Cond.methodLink RX6 180 yX6_couldLeave ∈ big := big_t 532 (by decide +kernel) (by decide +kernel)
theorem wI_X6_couldLeave : Cond.instanceMethod yX6_couldLeave ∈ big := big_t 533 (by decide +kernel) (by decide +kernel)
theorem wS_X6_couldLeave : Cond.selects RX6 yX6_couldLeave yX6_couldLeave ∈ big := big_t 534 (by decide +kernel) (by decide +kernel)
theorem wC_X6_couldLeave : Cond.code yX6_couldLeave cX6_couldLeave 3 (some .boolean) ∈ big := big_t 535 (by decide +kernel) (by decide +kernel)
theorem wM_X6_197 : Cond.methodLink RX6 197 yX6_manyAlike ∈ big := big_t 536 (by decide +kernel) (by decide +kernel)
theorem wI_X6_manyAlike : Cond.instanceMethod yX6_manyAlike ∈ big := big_t 537 (by decide +kernel) (by decide +kernel)
theorem wS_X6_manyAlike : Cond.selects RX6 yX6_manyAlike yX6_manyAlike ∈ big := big_t 538 (by decide +kernel) (by decide +kernel)
theorem wC_X6_manyAlike : Cond.code yX6_manyAlike cX6_manyAlike 4 (some .int) ∈ big := big_t 539 (by decide +kernel) (by decide +kernel)
theorem wM_X6_200 : Cond.methodLink RX6 200 Lib.Math.min.name ∈ big := big_t 540 (by decide +kernel) (by decide +kernel)
theorem wM_X6_203 : Cond.methodLink RX6 203 yX5_wagonAt ∈ big := big_t 541 (by decide +kernel) (by decide +kernel)
theorem wM_X6_186 : Cond.methodLink RX6 186 Lib.Math.max.name ∈ big := big_t 542 (by decide +kernel) (by decide +kernel)
theorem wT_max : Cond.static Lib.Math.max.name ∈ big := big_t 543 (by decide +kernel) (by decide +kernel)
theorem wC_max : Cond.code Lib.Math.max.name Lib.Math.max.code 2 (some .int) ∈ big := big_t 544 (by decide +kernel) (by decide +kernel)
theorem wM_X6_191 : Cond.methodLink RX6 191 yX5_engineLeaves ∈ big := big_t 545 (by decide +kernel) (by decide +kernel)
theorem wI_X5_engineLeaves : Cond.instanceMethod yX5_engineLeaves ∈ big := big_t 546 (by decide +kernel) (by decide +kernel)
theorem wS_X5_engineLeaves : Cond.selects RX5 yX5_engineLeaves yX5_engineLeaves ∈ big := big_t 547 (by decide +kernel) (by decide +kernel)
theorem wC_X5_engineLeaves : Cond.code yX5_engineLeaves cX5_engineLeaves 4 none ∈ big := big_t 548 (by decide +kernel) (by decide +kernel)
theorem wM_X6_177 : Cond.methodLink RX6 177 yX3_remove ∈ big := big_t 549 (by decide +kernel) (by decide +kernel)
theorem wI_X3_remove : Cond.instanceMethod yX3_remove ∈ big := big_t 550 (by decide +kernel) (by decide +kernel)
theorem wS_X3_remove : Cond.selects RX3 yX3_remove yX3_remove ∈ big := big_t 551 (by decide +kernel) (by decide +kernel)
theorem wC_X3_remove : Cond.code yX3_remove cX3_remove 3 none ∈ big := big_t 552 (by decide +kernel) (by decide +kernel)
theorem wM_L_69 : Cond.methodLink RL 69 yX7_moves ∈ big := big_t 553 (by decide +kernel) (by decide +kernel)
theorem wI_X7_moves : Cond.instanceMethod yX7_moves ∈ big := big_t 554 (by decide +kernel) (by decide +kernel)
theorem wS_X7_moves : Cond.selects RX7 yX7_moves yX7_moves ∈ big := big_t 555 (by decide +kernel) (by decide +kernel)
theorem wC_X7_moves : Cond.code yX7_moves cX7_moves 2 (some .int) ∈ big := big_t 556 (by decide +kernel) (by decide +kernel)
theorem wM_X7_147 : Cond.methodLink RX7 147 yX3_has ∈ big := big_t 557 (by decide +kernel) (by decide +kernel)
theorem wM_X7_159 : Cond.methodLink RX7 159 yX4_fewestMoves ∈ big := big_t 558 (by decide +kernel) (by decide +kernel)
theorem wI_X4_fewestMoves : Cond.instanceMethod yX4_fewestMoves ∈ big := big_t 559 (by decide +kernel) (by decide +kernel)
theorem wS_X4_fewestMoves : Cond.selects RX4 yX4_fewestMoves yX4_fewestMoves ∈ big := big_t 560 (by decide +kernel) (by decide +kernel)
theorem wC_X4_fewestMoves : Cond.code yX4_fewestMoves cX4_fewestMoves 4 (some .int) ∈ big := big_t 561 (by decide +kernel) (by decide +kernel)
theorem wM_X4_18 : Cond.methodLink RX4 18 yX6_copyFrom ∈ big := big_t 562 (by decide +kernel) (by decide +kernel)
theorem wM_X4_69 : Cond.methodLink RX4 69 yX6_couldLeave ∈ big := big_t 563 (by decide +kernel) (by decide +kernel)
theorem wM_X4_73 : Cond.methodLink RX4 73 yX4_couldAfterOne ∈ big := big_t 564 (by decide +kernel) (by decide +kernel)
theorem wI_X4_couldAfterOne : Cond.instanceMethod yX4_couldAfterOne ∈ big := big_t 566 (by decide +kernel) (by decide +kernel)
theorem wC_X4_couldAfterOne : Cond.code yX4_couldAfterOne cX4_couldAfterOne 6 (some .boolean) ∈ big := big_t 567 (by decide +kernel) (by decide +kernel)
theorem wM_X4_30 : Cond.methodLink RX4 30 yX5_manyIn ∈ big := big_t 568 (by decide +kernel) (by decide +kernel)
theorem wM_X4_39 : Cond.methodLink RX4 39 yX3_sizeOf ∈ big := big_t 569 (by decide +kernel) (by decide +kernel)
theorem wM_X4_100 : Cond.methodLink RX4 100 yX6_canGoRound ∈ big := big_t 570 (by decide +kernel) (by decide +kernel)
theorem wM_X4_107 : Cond.methodLink RX4 107 yX4_isTurned ∈ big := big_t 571 (by decide +kernel) (by decide +kernel)
theorem wI_X4_isTurned : Cond.instanceMethod yX4_isTurned ∈ big := big_t 573 (by decide +kernel) (by decide +kernel)
theorem wC_X4_isTurned : Cond.code yX4_isTurned cX4_isTurned 4 (some .boolean) ∈ big := big_t 574 (by decide +kernel) (by decide +kernel)
theorem wM_X4_66 : Cond.methodLink RX4 66 yX5_wagonAt ∈ big := big_t 575 (by decide +kernel) (by decide +kernel)
theorem wM_X4_55 : Cond.methodLink RX4 55 yX3_wagonOf ∈ big := big_t 576 (by decide +kernel) (by decide +kernel)
theorem wM_X4_22 : Cond.methodLink RX4 22 yX6_manyAlike ∈ big := big_t 577 (by decide +kernel) (by decide +kernel)
theorem wM_X4_61 : Cond.methodLink RX4 61 Lib.Math.min.name ∈ big := big_t 578 (by decide +kernel) (by decide +kernel)
theorem wM_X4_110 : Cond.methodLink RX4 110 yX6_tracksFor ∈ big := big_t 579 (by decide +kernel) (by decide +kernel)
theorem wM_X4_44 : Cond.methodLink RX4 44 yX4_trackOfNext ∈ big := big_t 580 (by decide +kernel) (by decide +kernel)
theorem wI_X4_trackOfNext : Cond.instanceMethod yX4_trackOfNext ∈ big := big_t 582 (by decide +kernel) (by decide +kernel)
theorem wC_X4_trackOfNext : Cond.code yX4_trackOfNext cX4_trackOfNext 4 (some .int) ∈ big := big_t 583 (by decide +kernel) (by decide +kernel)
theorem wM_X4_58 : Cond.methodLink RX4 58 yX5_rowOf ∈ big := big_t 584 (by decide +kernel) (by decide +kernel)
theorem wM_X4_48 : Cond.methodLink RX4 48 yX4_manyNext ∈ big := big_t 585 (by decide +kernel) (by decide +kernel)
theorem wI_X4_manyNext : Cond.instanceMethod yX4_manyNext ∈ big := big_t 587 (by decide +kernel) (by decide +kernel)
theorem wC_X4_manyNext : Cond.code yX4_manyNext cX4_manyNext 6 (some .int) ∈ big := big_t 588 (by decide +kernel) (by decide +kernel)
theorem wM_X4_90 : Cond.methodLink RX4 90 yX6_canTakeOut ∈ big := big_t 589 (by decide +kernel) (by decide +kernel)
theorem wM_X4_80 : Cond.methodLink RX4 80 yX4_couldAfterTakingOut ∈ big := big_t 590 (by decide +kernel) (by decide +kernel)
theorem wI_X4_couldAfterTakingOut : Cond.instanceMethod yX4_couldAfterTakingOut ∈ big := big_t 592 (by decide +kernel) (by decide +kernel)
theorem wC_X4_couldAfterTakingOut : Cond.code yX4_couldAfterTakingOut cX4_couldAfterTakingOut 6 (some .boolean) ∈ big := big_t 593 (by decide +kernel) (by decide +kernel)
theorem wM_X4_93 : Cond.methodLink RX4 93 yX5_shift ∈ big := big_t 594 (by decide +kernel) (by decide +kernel)
theorem wM_X4_84 : Cond.methodLink RX4 84 yX4_couldAfterBringingIn ∈ big := big_t 595 (by decide +kernel) (by decide +kernel)
theorem wI_X4_couldAfterBringingIn : Cond.instanceMethod yX4_couldAfterBringingIn ∈ big := big_t 597 (by decide +kernel) (by decide +kernel)
theorem wC_X4_couldAfterBringingIn : Cond.code yX4_couldAfterBringingIn cX4_couldAfterBringingIn 6 (some .boolean) ∈ big := big_t 598 (by decide +kernel) (by decide +kernel)
theorem wM_X4_97 : Cond.methodLink RX4 97 yX6_canBringIn ∈ big := big_t 599 (by decide +kernel) (by decide +kernel)
theorem wM_X4_87 : Cond.methodLink RX4 87 yX4_couldAfterGoingRound ∈ big := big_t 600 (by decide +kernel) (by decide +kernel)
theorem wI_X4_couldAfterGoingRound : Cond.instanceMethod yX4_couldAfterGoingRound ∈ big := big_t 602 (by decide +kernel) (by decide +kernel)
theorem wC_X4_couldAfterGoingRound : Cond.code yX4_couldAfterGoingRound cX4_couldAfterGoingRound 3 (some .boolean) ∈ big := big_t 603 (by decide +kernel) (by decide +kernel)
theorem wM_X4_104 : Cond.methodLink RX4 104 yX5_turnEngine ∈ big := big_t 604 (by decide +kernel) (by decide +kernel)
theorem wM_L_72 : Cond.methodLink RL 72 yX7_pulls ∈ big := big_t 605 (by decide +kernel) (by decide +kernel)
theorem wI_X7_pulls : Cond.instanceMethod yX7_pulls ∈ big := big_t 606 (by decide +kernel) (by decide +kernel)
theorem wS_X7_pulls : Cond.selects RX7 yX7_pulls yX7_pulls ∈ big := big_t 607 (by decide +kernel) (by decide +kernel)
theorem wC_X7_pulls : Cond.code yX7_pulls cX7_pulls 2 (some .int) ∈ big := big_t 608 (by decide +kernel) (by decide +kernel)
theorem wM_X7_152 : Cond.methodLink RX7 152 yX4_fewestPulls ∈ big := big_t 609 (by decide +kernel) (by decide +kernel)
theorem wI_X4_fewestPulls : Cond.instanceMethod yX4_fewestPulls ∈ big := big_t 610 (by decide +kernel) (by decide +kernel)
theorem wS_X4_fewestPulls : Cond.selects RX4 yX4_fewestPulls yX4_fewestPulls ∈ big := big_t 611 (by decide +kernel) (by decide +kernel)
theorem wC_X4_fewestPulls : Cond.code yX4_fewestPulls cX4_fewestPulls 7 (some .int) ∈ big := big_t 612 (by decide +kernel) (by decide +kernel)
theorem wM_X4_52 : Cond.methodLink RX4 52 yX6_drawOut ∈ big := big_t 613 (by decide +kernel) (by decide +kernel)
theorem wM_L_75 : Cond.methodLink RL 75 yX7_wouldLeave ∈ big := big_t 614 (by decide +kernel) (by decide +kernel)
theorem wI_X7_wouldLeave : Cond.instanceMethod yX7_wouldLeave ∈ big := big_t 615 (by decide +kernel) (by decide +kernel)
theorem wS_X7_wouldLeave : Cond.selects RX7 yX7_wouldLeave yX7_wouldLeave ∈ big := big_t 616 (by decide +kernel) (by decide +kernel)
theorem wC_X7_wouldLeave : Cond.code yX7_wouldLeave cX7_wouldLeave 2 (some .int) ∈ big := big_t 617 (by decide +kernel) (by decide +kernel)
theorem wM_L_107 : Cond.methodLink RL 107 yX7_block ∈ big := big_t 618 (by decide +kernel) (by decide +kernel)
theorem wI_X7_block : Cond.instanceMethod yX7_block ∈ big := big_t 619 (by decide +kernel) (by decide +kernel)
theorem wS_X7_block : Cond.selects RX7 yX7_block yX7_block ∈ big := big_t 620 (by decide +kernel) (by decide +kernel)
theorem wC_X7_block : Cond.code yX7_block cX7_block 3 (some .int) ∈ big := big_t 621 (by decide +kernel) (by decide +kernel)
theorem wM_X7_67 : Cond.methodLink RX7 67 yX6_addBlock ∈ big := big_t 622 (by decide +kernel) (by decide +kernel)
theorem wI_X6_addBlock : Cond.instanceMethod yX6_addBlock ∈ big := big_t 623 (by decide +kernel) (by decide +kernel)
theorem wS_X6_addBlock : Cond.selects RX6 yX6_addBlock yX6_addBlock ∈ big := big_t 624 (by decide +kernel) (by decide +kernel)
theorem wC_X6_addBlock : Cond.code yX6_addBlock cX6_addBlock 3 (some .int) ∈ big := big_t 625 (by decide +kernel) (by decide +kernel)
theorem wM_X6_113 : Cond.methodLink RX6 113 yX0_add ∈ big := big_t 626 (by decide +kernel) (by decide +kernel)
theorem wI_X0_add : Cond.instanceMethod yX0_add ∈ big := big_t 627 (by decide +kernel) (by decide +kernel)
theorem wS_X0_add : Cond.selects RX0 yX0_add yX0_add ∈ big := big_t 628 (by decide +kernel) (by decide +kernel)
theorem wC_X0_add : Cond.code yX0_add cX0_add 3 (some .int) ∈ big := big_t 629 (by decide +kernel) (by decide +kernel)
theorem wM_L_110 : Cond.methodLink RL 110 yL_isPassed ∈ big := big_t 630 (by decide +kernel) (by decide +kernel)
theorem wT_L_isPassed : Cond.static yL_isPassed ∈ big := big_t 631 (by decide +kernel) (by decide +kernel)
theorem wC_L_isPassed : Cond.code yL_isPassed cL_isPassed 5 (some .boolean) ∈ big := big_t 632 (by decide +kernel) (by decide +kernel)
theorem wM_L_78 : Cond.methodLink RL 78 yX7_pass ∈ big := big_t 633 (by decide +kernel) (by decide +kernel)
theorem wI_X7_pass : Cond.instanceMethod yX7_pass ∈ big := big_t 634 (by decide +kernel) (by decide +kernel)
theorem wS_X7_pass : Cond.selects RX7 yX7_pass yX7_pass ∈ big := big_t 635 (by decide +kernel) (by decide +kernel)
theorem wC_X7_pass : Cond.code yX7_pass cX7_pass 2 (some .int) ∈ big := big_t 636 (by decide +kernel) (by decide +kernel)
theorem wM_X7_80 : Cond.methodLink RX7 80 yX6_letPass ∈ big := big_t 637 (by decide +kernel) (by decide +kernel)
theorem wI_X6_letPass : Cond.instanceMethod yX6_letPass ∈ big := big_t 638 (by decide +kernel) (by decide +kernel)
theorem wS_X6_letPass : Cond.selects RX6 yX6_letPass yX6_letPass ∈ big := big_t 639 (by decide +kernel) (by decide +kernel)
theorem wC_X6_letPass : Cond.code yX6_letPass cX6_letPass 2 (some .int) ∈ big := big_t 640 (by decide +kernel) (by decide +kernel)
theorem wM_L_130 : Cond.methodLink RL 130 yL_isServed ∈ big := big_t 641 (by decide +kernel) (by decide +kernel)
theorem wT_L_isServed : Cond.static yL_isServed ∈ big := big_t 642 (by decide +kernel) (by decide +kernel)
theorem wC_L_isServed : Cond.code yL_isServed cL_isServed 5 (some .boolean) ∈ big := big_t 643 (by decide +kernel) (by decide +kernel)
theorem wM_L_113 : Cond.methodLink RL 113 yX7_straight ∈ big := big_t 644 (by decide +kernel) (by decide +kernel)
theorem wI_X7_straight : Cond.instanceMethod yX7_straight ∈ big := big_t 645 (by decide +kernel) (by decide +kernel)
theorem wS_X7_straight : Cond.selects RX7 yX7_straight yX7_straight ∈ big := big_t 646 (by decide +kernel) (by decide +kernel)
theorem wC_X7_straight : Cond.code yX7_straight cX7_straight 2 (some .int) ∈ big := big_t 647 (by decide +kernel) (by decide +kernel)
theorem wS_X1_dropOldest : Cond.selects RX1 yX1_dropOldest yX1_dropOldest ∈ big := big_s 0 (by decide +kernel) (by decide +kernel)
theorem wS_X6_makeMove : Cond.selects RX6 yX6_makeMove yX6_makeMove ∈ big := big_s 1 (by decide +kernel) (by decide +kernel)
theorem wS_X6_comeTo : Cond.selects RX6 yX6_comeTo yX6_comeTo ∈ big := big_s 2 (by decide +kernel) (by decide +kernel)
theorem wS_X7_readList : Cond.selects RX7 yX7_readList yX7_readList ∈ big := big_s 3 (by decide +kernel) (by decide +kernel)
theorem wS_X6_areThere : Cond.selects RX6 yX6_areThere yX6_areThere ∈ big := big_s 4 (by decide +kernel) (by decide +kernel)
theorem wS_X6_lengthOfList : Cond.selects RX6 yX6_lengthOfList yX6_lengthOfList ∈ big := big_s 5 (by decide +kernel) (by decide +kernel)
theorem wS_X4_couldAfterOne : Cond.selects RX4 yX4_couldAfterOne yX4_couldAfterOne ∈ big := big_s 6 (by decide +kernel) (by decide +kernel)
theorem wS_X4_isTurned : Cond.selects RX4 yX4_isTurned yX4_isTurned ∈ big := big_s 7 (by decide +kernel) (by decide +kernel)
theorem wS_X4_trackOfNext : Cond.selects RX4 yX4_trackOfNext yX4_trackOfNext ∈ big := big_s 8 (by decide +kernel) (by decide +kernel)
theorem wS_X4_manyNext : Cond.selects RX4 yX4_manyNext yX4_manyNext ∈ big := big_s 9 (by decide +kernel) (by decide +kernel)
theorem wS_X4_couldAfterTakingOut : Cond.selects RX4 yX4_couldAfterTakingOut yX4_couldAfterTakingOut ∈ big := big_s 10 (by decide +kernel) (by decide +kernel)
theorem wS_X4_couldAfterBringingIn : Cond.selects RX4 yX4_couldAfterBringingIn yX4_couldAfterBringingIn ∈ big := big_s 11 (by decide +kernel) (by decide +kernel)
theorem wS_X4_couldAfterGoingRound : Cond.selects RX4 yX4_couldAfterGoingRound yX4_couldAfterGoingRound ∈ big := big_s 12 (by decide +kernel) (by decide +kernel)
theorem iX0 : ∀ w ∈ u_ws RX0 TX0 3, w ∈ big := by decide +kernel
theorem iX1 : ∀ w ∈ u_ws RX1 TX1 2, w ∈ big := by decide +kernel
theorem iX2 : ∀ w ∈ u_ws RX2 TX2 2, w ∈ big := by decide +kernel
theorem iX3 : ∀ w ∈ u_ws RX3 TX3 4, w ∈ big := by decide +kernel
theorem iX4 : ∀ w ∈ u_ws RX4 TX4 1, w ∈ big := by decide +kernel
theorem iX5 : ∀ w ∈ u_ws RX5 TX5 7, w ∈ big := by decide +kernel
theorem iX6 : ∀ w ∈ u_ws RX6 TX6 14, w ∈ big := by decide +kernel
theorem iX7 : ∀ w ∈ u_ws RX7 TX7 7, w ∈ big := by decide +kernel
def nF : List (String × Nat × String × String × String × String) := [(RX6, 9, RX7, "FIRST_VALUES", "[I", "PickupYard"), (RX6, 101, RX5, "number", "I", "PickupYard"), (RX6, 227, RX5, "manyGone", "I", "PickupYard"), (RX6, 212, RX5, "length", "[I", "PickupYard"), (RX6, 215, RX5, "leftAt", "[I", "PickupYard"), (RX6, 218, RX5, "timesPulled", "[I", "PickupYard"), (RX6, 112, RX0, "number", "I", "PickupYard"), (RX6, 162, RX3, "waiting", "I", "PickupYard"), (RX6, 183, RX3, "due", "[I", "PickupYard"), (RX7, 135, RX6, "minute", "I", "PickupYard"), (RX4, 76, RX6, "tracks", "I", "PickupYard"), (RX4, 26, RX6, "wagons", "LPickupYard$Wagons;", "PickupYard"), (RX7, 102, RX6, "wagons", "LPickupYard$Wagons;", "PickupYard"), (RX7, 131, RX6, "blocks", "LPickupYard$Blocks;", "PickupYard"), (RX4, 35, RX6, "trains", "LPickupYard$Trains;", "PickupYard"), (RX7, 143, RX6, "trains", "LPickupYard$Trains;", "PickupYard"), (RX7, 156, RX4, "copy", "LPickupYard$Yard;", "PickupYard"), (RX7, 125, RX1, "number", "I", "PickupYard"), (RX7, 121, RX2, "length", "I", "PickupYard"), (RX6, 91, RX7, "LEAST_VALUES", "[I", "PickupYard"), (RX6, 94, RX7, "MOST_VALUES", "[I", "PickupYard")]
def nM : List (String × Nat × MethodName × String) := [(RX7, 11, yX6_init, "PickupYard"), (RX6, 34, yX5_init, "PickupYard"), (RX6, 41, yX0_init, "PickupYard"), (RX6, 48, yX3_init, "PickupYard"), (RX7, 18, yX4_init, "PickupYard"), (RX4, 11, yX6_init, "PickupYard"), (RX1, 17, yX6_init, "PickupYard"), (RX7, 40, yX2_init, "PickupYard")]
theorem nF_in : ∀ q ∈ nF, Cond.fieldLinkNest q.1 q.2.1 q.2.2.1 q.2.2.2.1 q.2.2.2.2.1 q.2.2.2.2.2 ∈ tables_1 := by decide +kernel
theorem nM_in : ∀ q ∈ nM, Cond.methodLinkNest q.1 q.2.1 q.2.2.1 q.2.2.2 ∈ tables_1 := by decide +kernel
end
section
abbrev xT := (Nat → Nat → Nat) × va_G × (Nat → ClassId) × Nat
abbrev mT := Nat → Nat → Nat → Int32
def x_v (κ j : Nat) : Prop := (κ < 18 ∧ j < 11) ∨ (18 ≤ κ ∧ κ < 27 ∧ j = 0)
def x_n (κ j : Nat) : Nat := if κ < 18 then 11 * κ + j else κ + 180
def x_k (n : Nat) : Nat × Nat := if n < 198 then (n / 11, n % 11) else (n - 180, 0)
def x_A (X : xT) : Nat → Prop := fun q => ∃ n, n < 207 ∧ X.1 (x_k n).1 (x_k n).2 = q
theorem x_vy {κ j : Nat} (h : κ < 18) (hj : j < 11) : x_v κ j := Or.inl ⟨h, hj⟩
theorem x_v0 {κ : Nat} (h : 18 ≤ κ ∧ κ < 27) : x_v κ 0 := Or.inr ⟨h.1, h.2, rfl⟩
theorem x_nl {κ j : Nat} (h : x_v κ j) : x_n κ j < 207 := by unfold x_n; rcases h with ⟨h1, h2⟩ | ⟨h1, h2, h3⟩ <;> split <;> omega
theorem x_kn {κ j : Nat} (h : x_v κ j) : x_k (x_n κ j) = (κ, j) := by
  rcases h with ⟨h1, h2⟩ | ⟨h1, h2, h3⟩
  · have e : x_n κ j = 11 * κ + j := if_pos h1
    rw [e]
    unfold x_k
    rw [if_pos (by omega)]
    exact Prod.ext (by show (11 * κ + j) / 11 = κ; omega) (by show (11 * κ + j) % 11 = j; omega)
  · subst h3
    have e : x_n κ 0 = κ + 180 := if_neg (by omega)
    rw [e]
    unfold x_k
    rw [if_neg (by omega)]
    exact Prod.ext (by show κ + 180 - 180 = κ; omega) rfl
theorem x_nk {n : Nat} (h : n < 207) : x_n (x_k n).1 (x_k n).2 = n ∧ x_v (x_k n).1 (x_k n).2 := by
  unfold x_n x_k x_v
  by_cases h1 : n < 198
  · rw [if_pos h1]
    dsimp only
    refine ⟨?_, Or.inl ⟨by omega, by omega⟩⟩
    rw [if_pos (by omega)]
    omega
  · rw [if_neg h1]
    dsimp only
    refine ⟨?_, Or.inr ⟨by omega, by omega, rfl⟩⟩
    rw [if_neg (by omega)]
    omega
def x_c (X : xT) (κ j : Nat) (r : Nat → Int32) : va_E := match κ with
  | 0 => .inr (6, [.int (r 0), .int (r 1), .int (r 2), .int (r 3), .int (r 4), .int (r 5), .ref (X.1 4 j), .int (r 7), .ref (X.1 5 j), .ref (X.1 6 j), .ref (X.1 7 j), .ref (X.1 1 j), .ref (X.1 2 j), .ref (X.1 3 j)])
  | 1 => .inr (5, [.int (r 0), .int (r 1), .ref (X.1 8 j), .ref (X.1 9 j), .ref (X.1 10 j), .ref (X.1 11 j), .ref (X.1 12 j)])
  | 2 => .inr (0, [.int (r 0), .ref (X.1 13 j), .ref (X.1 14 j)])
  | 3 => .inr (3, [.int (r 0), .ref (X.1 15 j), .ref (X.1 16 j), .ref (X.1 17 j)])
  | 4 => .inl (X.2.2.1 0, 6, .inl r)
  | 5 => .inl (X.2.2.1 0, 8, .inl r)
  | 6 => .inl (X.2.2.1 0, 8, .inl r)
  | 7 => .inl (X.2.2.1 0, 8, .inl r)
  | 8 => .inl (X.2.2.1 0, 30, .inl r)
  | 9 => .inl (X.2.2.1 0, 30, .inl r)
  | 10 => .inl (X.2.2.1 0, 30, .inl r)
  | 11 => .inl (X.2.2.1 0, 9, .inl r)
  | 12 => .inl (X.2.2.1 0, 270, .inl r)
  | 13 => .inl (X.2.2.1 0, 10, .inl r)
  | 14 => .inl (X.2.2.1 0, 10, .inl r)
  | 15 => .inl (X.2.2.1 0, 8, .inl r)
  | 16 => .inl (X.2.2.1 0, 8, .inl r)
  | 17 => .inl (X.2.2.1 0, 64, .inl r)
  | 18 => .inr (7, [.ref (X.1 0 0), .ref (X.1 20 0), .ref (X.1 19 0), .ref (X.1 23 0), .ref (X.1 24 0), .ref (X.1 21 0), .ref (X.1 26 0)])
  | 19 => .inr (1, [.int (r 0), .ref (X.1 22 0)])
  | 20 => .inr (4, [.ref (X.1 0 1)])
  | 21 => .inr (2, [.int (r 0), .ref (X.1 25 0)])
  | 22 => .inl (X.2.2.1 3, 7, .inr (.inr (.inr (.inr (fun k => some (X.1 0 (r k).toNatClampNeg))))))
  | 23 => .inl (X.2.2.1 3, 2, .inr (.inr (.inr (.inr (fun k => some (X.1 0 (r k).toNatClampNeg))))))
  | 24 => .inl (X.2.2.1 1, 2, .inl r)
  | 25 => .inl (X.2.2.1 2, 80, .inl r)
  | 26 => .inl (X.2.2.1 0, 8, .inl r)
  | _ => .inl (X.2.2.1 0, 0, .inl r)
def x_ai (κ t n : Nat) : Prop := ∀ (X : xT) (j : Nat) (r : Nat → Int32), x_c X κ j r = .inl (X.2.2.1 t, n, .inl r)
def x_aq (κ n : Nat) : Prop := ∀ (X : xT) (j : Nat) (r : Nat → Int32), x_c X κ j r = .inl (X.2.2.1 3, n, .inr (.inr (.inr (.inr (fun k => some (X.1 0 (r k).toNatClampNeg))))))
theorem a_4 : x_ai 4 0 6 := fun _ _ _ => rfl
theorem a_5 : x_ai 5 0 8 := fun _ _ _ => rfl
theorem a_6 : x_ai 6 0 8 := fun _ _ _ => rfl
theorem a_7 : x_ai 7 0 8 := fun _ _ _ => rfl
theorem a_8 : x_ai 8 0 30 := fun _ _ _ => rfl
theorem a_9 : x_ai 9 0 30 := fun _ _ _ => rfl
theorem a_10 : x_ai 10 0 30 := fun _ _ _ => rfl
theorem a_11 : x_ai 11 0 9 := fun _ _ _ => rfl
theorem a_12 : x_ai 12 0 270 := fun _ _ _ => rfl
theorem a_13 : x_ai 13 0 10 := fun _ _ _ => rfl
theorem a_14 : x_ai 14 0 10 := fun _ _ _ => rfl
theorem a_15 : x_ai 15 0 8 := fun _ _ _ => rfl
theorem a_16 : x_ai 16 0 8 := fun _ _ _ => rfl
theorem a_17 : x_ai 17 0 64 := fun _ _ _ => rfl
theorem a_22 : x_aq 22 7 := fun _ _ _ => rfl
theorem a_23 : x_aq 23 2 := fun _ _ _ => rfl
theorem a_24 : x_ai 24 1 2 := fun _ _ _ => rfl
theorem a_25 : x_ai 25 2 80 := fun _ _ _ => rfl
theorem a_26 : x_ai 26 0 8 := fun _ _ _ => rfl
def x_w (X : xT) (μ : mT) : va_W := (List.range 207).map fun n => (X.1 (x_k n).1 (x_k n).2, x_c X (x_k n).1 (x_k n).2 (μ (x_k n).1 (x_k n).2))
def upR (μ : mT) (κ j : Nat) (r : Nat → Int32) : mT := fun κ' j' => if κ' = κ ∧ j' = j then r else μ κ' j'
def upM (μ : mT) (κ j k : Nat) (x : Int32) : mT := upR μ κ j (upd (μ κ j) k x)
theorem x_wn (X : xT) (μ : mT) {n : Nat} (h : n < 207) : (x_w X μ)[n]? = some (X.1 (x_k n).1 (x_k n).2, x_c X (x_k n).1 (x_k n).2 (μ (x_k n).1 (x_k n).2)) := by
  unfold x_w
  rw [List.getElem?_map, List.getElem?_range h]
  rfl
theorem x_wg (X : xT) (μ : mT) {κ j : Nat} (h : x_v κ j) : (x_w X μ)[x_n κ j]? = some (X.1 κ j, x_c X κ j (μ κ j)) := by
  rw [x_wn X μ (x_nl h), x_kn h]
theorem x_wl (X : xT) (μ : mT) : (x_w X μ).length = 207 := by unfold x_w; rw [List.length_map, List.length_range]
theorem x_ws (X : xT) (μ : mT) {κ j : Nat} (h : x_v κ j) (r : Nat → Int32) : (x_w X μ).set (x_n κ j) (X.1 κ j, x_c X κ j r) = x_w X (upR μ κ j r) := by
  apply List.ext_getElem?
  intro n
  rw [List.getElem?_set, x_wl]
  by_cases hn : x_n κ j = n
  · rw [if_pos hn, if_pos (x_nl h), ← hn, x_wg X _ h]
    unfold upR
    rw [if_pos ⟨rfl, rfl⟩]
  · rw [if_neg hn]
    by_cases hl : n < 207
    · rw [x_wn X _ hl, x_wn X _ hl]
      unfold upR
      rw [if_neg]
      rintro ⟨h1, h2⟩
      apply hn
      rw [← h1, ← h2]
      exact (x_nk hl).1
    · rw [List.getElem?_eq_none (by rw [x_wl]; omega), List.getElem?_eq_none (by rw [x_wl]; omega)]
def xOK (X : xT) : Prop := (∀ n n', n < 207 → n' < 207 → X.1 (x_k n).1 (x_k n).2 = X.1 (x_k n').1 (x_k n').2 → n = n') ∧ ∀ n, n < 207 → X.2.2.2 ≤ X.1 (x_k n).1 (x_k n).2
theorem x_D {X : xT} (h : xOK X) (μ : mT) : va_D (x_A X) (x_w X μ) := by
  have hl : ∀ (n : Nat) (q : Nat × va_E), (x_w X μ)[n]? = some q → n < 207 := fun n q e => by
    have := (List.getElem?_eq_some_iff.mp e).1
    rwa [x_wl] at this
  refine ⟨fun i j p q hp hq e => ?_, fun k q hq => ?_⟩
  · have hi := hl i p hp
    have hj := hl j q hq
    rw [x_wn X μ hi] at hp
    rw [x_wn X μ hj] at hq
    cases hp
    cases hq
    exact h.1 i j hi hj e
  · have hk := hl k q hq
    rw [x_wn X μ hk] at hq
    cases hq
    exact ⟨k, hk, rfl⟩
def x_ty (X : xT) : List (ClassId × FieldType) := [(X.2.2.1 0, .int), (X.2.2.1 1, .boolean), (X.2.2.1 2, .char), (X.2.2.1 3, .object RX6)]
def cst (κ : Nat) : Nat → Int32 := if κ = 40 then fun k => ([4, 2, 1, 0, 1, 0] : List Int32).getD k 0 else fun k => ([60, 60, 20, 10, 60, 1000] : List Int32).getD k 0
def x_N (U : State) : Prop := (∀ q ∈ nF, va_Nw (.fieldLinkNest q.1 q.2.1 q.2.2.1 q.2.2.2.1 q.2.2.2.2.1 q.2.2.2.2.2) U) ∧ ∀ q ∈ nM, va_Nw (.methodLinkNest q.1 q.2.1 q.2.2.1 q.2.2.2) U
theorem x_N.warm {s U : State} (h : x_N s) (hW : s.WarmedH U.vm) : x_N U := ⟨fun q hq => va_Nw.warmF hW (h.1 q hq), fun q hq => va_Nw.warmM hW (h.2 q hq)⟩
theorem x_N.same {s U : State} (h : x_N s) (hW : s.vm = U.vm) : x_N U := ⟨fun q hq => va_Nw.same rfl hW (h.1 q hq), fun q hq => va_Nw.same rfl hW (h.2 q hq)⟩
def x_R (X : xT) (U : State) (H : Heap) : Prop := va_Z RX7 "LEAST_VALUES" "[I" (.ref (X.1 40 0)) (x_A X) U H ∧ va_Z RX7 "MOST_VALUES" "[I" (.ref (X.1 41 0)) (x_A X) U H ∧ ∀ κ, κ = 40 ∨ κ = 41 → va_T .int (X.1 κ 0) 6 (fun k => .int (cst κ k)) (x_A X) U H
theorem x_R.moved {X : xT} {u U : State} {H : Heap} (hvm : u.vm.Alike U.vm) (h : x_R X u H) : x_R X U H := ⟨h.1.moved hvm, h.2.1.moved hvm, fun κ hκ => (h.2.2 κ hκ).moved hvm⟩
theorem x_R.kept {X : xT} {U : State} {H H1 : Heap} {locs : List Loc} (h : x_R X U H) (hS : va_S (x_A X) H H1 locs) : x_R X U H1 := ⟨h.1.kept hS.2.1, h.2.1.kept hS.2.1, fun κ hκ => (h.2.2 κ hκ).kept hS.2.1⟩
def x_G (X : xT) (μ : mT) (U : State) : Prop := va_P X.2.1 vwCl (x_w X μ) U.heap ∧ va_K X.2.1 vwCl (x_ty X) U ∧ x_N U ∧ x_R X U U.heap
theorem x_G.blind {X : xT} {μ : mT} {U : State} (g : JFrame) (mk : MethodId) (a : Array Value) (h : x_G X μ U) : x_G X μ (U.calling g mk a) :=
  ⟨h.1, va_K.moved (u := U) (U := U.calling g mk a) (Vm.Alike.refl U.vm) h.2.1, x_N.same (U := U.calling g mk a) h.2.2.1 rfl, x_R.moved (u := U) (U := U.calling g mk a) (Vm.Alike.refl U.vm) h.2.2.2⟩
theorem x_G.to {X : xT} {μ : mT} {s U : State} {H : Heap} {locs : List Loc} (hK : va_K X.2.1 vwCl (x_ty X) s) (hN : x_N s) (hR : x_R X s s.heap) (hS : va_S (x_A X) s.heap H locs) (hP : va_P X.2.1 vwCl (x_w X μ) H) (hU : U.heap = H) (hW : s.WarmedH U.vm) : x_G X μ U :=
  ⟨by rw [hU]; exact hP, va_K.moved hW.alike hK, hN.warm hW, by rw [hU]; exact (hR.kept hS).moved hW.alike⟩
abbrev gT := Program × Launch × Env × Room × State × MethodId × Array Value × List Frame × Method × Code × Nat × Nat × (State → Prop) × Nat
def tj (X : xT) : gT → mT → Nat → List (Nat × Value) → List Value → Prop
  | (p, l, e, R, s, m, args, below, meth, c, kc, ks, Q, nL), μ, pc, lv, st => ∀ (H : Heap) (locs : List Loc) (la : Array Slot), va_P X.2.1 vwCl (x_w X μ) H → va_S (x_A X) s.heap H locs → lv_has la nL lv → W p l e R s m args below meth c H locs kc ks Q (F0 m pc la st)
def Ok (X : xT) (own : String) (cc : ByteArray) (F L : Nat) : gT → Prop
  | (p, _, _, R, s, m, args, _, meth, c, kc, ks, _, nL) => p.tables.exec = Jvm.exec ∧ c.code = cc ∧ c.maxLocals = nL ∧ s.vm.findClass own = some m.cls ∧ (∀ w ∈ big, w.before args s = true) ∧ va_K X.2.1 vwCl (x_ty X) s ∧ x_N s ∧ x_R X s s.heap ∧ xOK X ∧ (F ≤ R.frames ∧ L ≤ R.locals ∧ kc ≤ R.cells ∧ ks ≤ R.slots) ∧ meth.locks = false
def gL : gT → Nat
  | (_, _, _, _, _, _, _, _, _, _, _, _, _, nL) => nL
def Qi (X : xT) (r : Int32) (μ' : mT) : Array Value → State → Outcome → State → Prop := va_Qi (S := Unit) (fun z _ => z = r) (fun _ t => va_P X.2.1 vwCl (x_w X μ') t.heap) (x_A X)
def Qv (X : xT) (μ' : mT) : Array Value → State → Outcome → State → Prop := va_Qv (S := Unit) (fun _ => True) (fun _ t => va_P X.2.1 vwCl (x_w X μ') t.heap) (x_A X)
def Rti (X : xT) (rt : FieldType) (r : Int32) (μ' : mT) : gT → Prop
  | (_, _, _, _, s, _, args, below, meth, _, kc, ks, Q, _) => meth.sig.returnType = some rt ∧ Q = MQ below (Qi X r μ') args s kc ks (x_A X)
def Rtv (X : xT) (μ' : mT) : gT → Prop
  | (_, _, _, _, s, _, args, below, meth, _, kc, ks, Q, _) => meth.sig.returnType = none ∧ Q = MQ below (Qv X μ') args s kc ks (x_A X)
def CMi (X : xT) (y : MethodName) (cc : ByteArray) (nL : Nat) (rt : FieldType) (F L : Nat) (As : List Value) (μ : mT) (r : Int32) (μ' : mT) : Prop := ∀ l : Launch, Met l y (.code y cc nL (some rt) :: big) { frames := F, cells := 0, slots := 0, locals := L } (va_Pc As (x_G X μ)) (Qi X r μ') 0 0 (x_A X)
def CMv (X : xT) (y : MethodName) (cc : ByteArray) (nL : Nat) (F L : Nat) (As : List Value) (μ : mT) (μ' : mT) : Prop := ∀ l : Launch, Met l y (.code y cc nL none :: big) { frames := F, cells := 0, slots := 0, locals := L } (va_Pc As (x_G X μ)) (Qv X μ') 0 0 (x_A X)
theorem CMi_of {X : xT} {y : MethodName} {cc : ByteArray} {nL : Nat} {rt : FieldType} {F L : Nat} {As : List Value} {μ : mT} {r : Int32} {μ' : mT} {lv : List (Nat × Value)} (hX : xOK X) (hy : plainName y.cls = true) (hlen : (lg_sl As).length ≤ nL) (hlv : lv_args 0 As = lv)
    (h : ∀ Γ : gT, Ok X y.cls cc F L Γ → gL Γ = nL → Rti X rt r μ' Γ → tj X Γ μ 0 lv []) : CMi X y cc nL rt F L As μ r μ' := by
  intro l
  refine Met.ofW (cc := cc) (maxL := nL) (ret := some rt) hy rfl ?_
  intro p e s m args below meth c s₁ B hml hv
  obtain ⟨rfl, hP, hK, hN, hR⟩ := hv
  have hts := atoms_spec (ws := .code y cc nL (some rt) :: big) B.pre
  have hown : s.vm.findClass y.cls = some m.cls := findClass_of_methodNamed B.named
  have hl := lv_entry As (n := nL) hlen
  rw [hlv] at hl
  rw [lg_entry_eq]
  exact h (p, l, e, _, s, m, As.toArray, below, meth, c, 0, 0, _, nL) ⟨B.exec, B.bytes, hml, hown, fun w hw => hts w (List.mem_cons_of_mem _ hw), hK, hN, hR, hX, ⟨Nat.le_refl _, Nat.le_refl _, Nat.zero_le _, Nat.zero_le _⟩, B.notSynchronized⟩ rfl ⟨B.returns, rfl⟩ s.heap [] _ hP va_S.rf hl
theorem CMv_of {X : xT} {y : MethodName} {cc : ByteArray} {nL : Nat} {F L : Nat} {As : List Value} {μ : mT} {μ' : mT} {lv : List (Nat × Value)} (hX : xOK X) (hy : plainName y.cls = true) (hlen : (lg_sl As).length ≤ nL) (hlv : lv_args 0 As = lv)
    (h : ∀ Γ : gT, Ok X y.cls cc F L Γ → gL Γ = nL → Rtv X μ' Γ → tj X Γ μ 0 lv []) : CMv X y cc nL F L As μ μ' := by
  intro l
  refine Met.ofW (cc := cc) (maxL := nL) (ret := none) hy rfl ?_
  intro p e s m args below meth c s₁ B hml hv
  obtain ⟨rfl, hP, hK, hN, hR⟩ := hv
  have hts := atoms_spec (ws := .code y cc nL none :: big) B.pre
  have hown : s.vm.findClass y.cls = some m.cls := findClass_of_methodNamed B.named
  have hl := lv_entry As (n := nL) hlen
  rw [hlv] at hl
  rw [lg_entry_eq]
  exact h (p, l, e, _, s, m, As.toArray, below, meth, c, 0, 0, _, nL) ⟨B.exec, B.bytes, hml, hown, fun w hw => hts w (List.mem_cons_of_mem _ hw), hK, hN, hR, hX, ⟨Nat.le_refl _, Nat.le_refl _, Nat.zero_le _, Nat.zero_le _⟩, B.notSynchronized⟩ rfl ⟨B.returns, rfl⟩ s.heap [] _ hP va_S.rf hl
def inb (i : Int32) (n : Nat) : Bool := decide (0 ≤ i) && decide (i.toNatClampNeg < n)
theorem inb_in {i : Int32} {n : Nat} (h : inb i n = true) : vp_in i n := by
  unfold inb at h
  rw [Bool.and_eq_true, decide_eq_true_eq, decide_eq_true_eq] at h
  intro q
  rcases q with q | q
  · exact Int32.not_lt.mpr h.1 q
  · omega
def gd {α : Type} (b : Bool) (k : Option α) : Option α := if b = true then k else none
theorem of_gd {α : Type} {b : Bool} {k : Option α} {x : α} (h : gd b k = some x) : b = true ∧ k = some x := by
  unfold gd at h
  split at h
  · exact ⟨by assumption, h⟩
  · cases h
def lt {α β : Type} (a : α) (f : α → β) : β := f a
theorem of_lt {α β : Type} {a : α} {f : α → β} {b : β} (h : lt a f = b) : ∃ x, x = a ∧ f x = b := ⟨a, rfl, h⟩
def bd {α : Type} (x : Option (Int32 × mT)) (k : Int32 → mT → Option α) : Option α := match x with
  | some (r, μ) => k r μ
  | none => none
theorem of_bd {α : Type} {x : Option (Int32 × mT)} {k : Int32 → mT → Option α} {y : α} (h : bd x k = some y) : ∃ (r : Int32) (μ : mT), x = some (r, μ) ∧ k r μ = some y := by
  unfold bd at h
  split at h
  · exact ⟨_, _, rfl, h⟩
  · cases h
theorem of_t {α : Type} {c : Prop} {_ : Decidable c} {A B : α} {x : α} (hc : c) (h : (if c then A else B) = x) : A = x := (if_pos hc).symm.trans h
theorem of_f {α : Type} {c : Prop} {_ : Decidable c} {A B : α} {x : α} (hc : ¬ c) (h : (if c then A else B) = x) : B = x := (if_neg hc).symm.trans h
def fu : Nat := 4000
theorem tr_iconst {X : xT} {own : String} {cc : ByteArray} {F L : Nat} {Γ : gT} (hO : Ok X own cc F L Γ) (pc : Nat) {μ : mT} {lv : List (Nat × Value)} {st : List Value} {n : Int} {v : Int32} (hv : Int32.ofInt n = v) (d : decode cc pc = .ok (.iconst n, 1)) (k : tj X Γ μ (pc + 1) lv (.int v :: st)) : tj X Γ μ pc lv st := by
  obtain ⟨p, l, e, R, s, m, args, below, meth, c, kc, ks, Q, nL⟩ := Γ
  obtain ⟨hx, hb, hml, hown, hts, hK, hN, hR, hX, hroom, hlk⟩ := hO
  intro H locs la hP hS hl
  exact lv_iconst hx hb d hv (k H locs la hP hS hl)
theorem tr_bipush {X : xT} {own : String} {cc : ByteArray} {F L : Nat} {Γ : gT} (hO : Ok X own cc F L Γ) (pc : Nat) {μ : mT} {lv : List (Nat × Value)} {st : List Value} {n : Int} {v : Int32} (hv : (Int8.ofInt n).toInt32 = v) (d : decode cc pc = .ok (.bipush n, 2)) (k : tj X Γ μ (pc + 2) lv (.int v :: st)) : tj X Γ μ pc lv st := by
  obtain ⟨p, l, e, R, s, m, args, below, meth, c, kc, ks, Q, nL⟩ := Γ
  obtain ⟨hx, hb, hml, hown, hts, hK, hN, hR, hX, hroom, hlk⟩ := hO
  intro H locs la hP hS hl
  exact lv_bipush hx hb d hv (k H locs la hP hS hl)
theorem tr_sipush {X : xT} {own : String} {cc : ByteArray} {F L : Nat} {Γ : gT} (hO : Ok X own cc F L Γ) (pc : Nat) {μ : mT} {lv : List (Nat × Value)} {st : List Value} {n : Int} {v : Int32} (hv : (Int16.ofInt n).toInt32 = v) (d : decode cc pc = .ok (.sipush n, 3)) (k : tj X Γ μ (pc + 3) lv (.int v :: st)) : tj X Γ μ pc lv st := by
  obtain ⟨p, l, e, R, s, m, args, below, meth, c, kc, ks, Q, nL⟩ := Γ
  obtain ⟨hx, hb, hml, hown, hts, hK, hN, hR, hX, hroom, hlk⟩ := hO
  intro H locs la hP hS hl
  exact lv_sipush hx hb d hv (k H locs la hP hS hl)
theorem tr_lconst {X : xT} {own : String} {cc : ByteArray} {F L : Nat} {Γ : gT} (hO : Ok X own cc F L Γ) (pc : Nat) {μ : mT} {lv : List (Nat × Value)} {st : List Value} {n : Fin 2} {v : Int64} (hv : Int64.ofNat (n : Nat) = v) (d : decode cc pc = .ok (.lconst n, 1)) (k : tj X Γ μ (pc + 1) lv (.long v :: st)) : tj X Γ μ pc lv st := by
  obtain ⟨p, l, e, R, s, m, args, below, meth, c, kc, ks, Q, nL⟩ := Γ
  obtain ⟨hx, hb, hml, hown, hts, hK, hN, hR, hX, hroom, hlk⟩ := hO
  intro H locs la hP hS hl
  exact lv_lconst hx hb d hv (k H locs la hP hS hl)
theorem tr_ldc2 {X : xT} {own : String} {cc : ByteArray} {F L : Nat} {Γ : gT} (hO : Ok X own cc F L Γ) (pc : Nat) {μ : mT} {lv : List (Nat × Value)} {st : List Value} {index : Nat} {v : Int64} (hw : Cond.constantLong own index v ∈ big) (d : decode cc pc = .ok (.ldc2_w index, 3)) (k : tj X Γ μ (pc + 3) lv (.long v :: st)) : tj X Γ μ pc lv st := by
  obtain ⟨p, l, e, R, s, m, args, below, meth, c, kc, ks, Q, nL⟩ := Γ
  obtain ⟨hx, hb, hml, hown, hts, hK, hN, hR, hX, hroom, hlk⟩ := hO
  intro H locs la hP hS hl
  exact lv_ldc2 hx hb hown (hts _ hw) d (k H locs la hP hS hl)
theorem tr_iload_n {X : xT} {own : String} {cc : ByteArray} {F L : Nat} {Γ : gT} (hO : Ok X own cc F L Γ) (pc : Nat) {μ : mT} {lv : List (Nat × Value)} {st : List Value} {i : Fin 4} {x : Int32} (q : Nat) (hq : lv[q]? = some ((i : Nat), .int x)) (d : decode cc pc = .ok (.iload_n i, 1)) (k : tj X Γ μ (pc + 1) lv (.int x :: st)) : tj X Γ μ pc lv st := by
  obtain ⟨p, l, e, R, s, m, args, below, meth, c, kc, ks, Q, nL⟩ := Γ
  obtain ⟨hx, hb, hml, hown, hts, hK, hN, hR, hX, hroom, hlk⟩ := hO
  intro H locs la hP hS hl
  exact lv_iload_n hx hb d rfl (lv_at hl q hq) (k H locs la hP hS hl)
theorem tr_iload {X : xT} {own : String} {cc : ByteArray} {F L : Nat} {Γ : gT} (hO : Ok X own cc F L Γ) (pc : Nat) {μ : mT} {lv : List (Nat × Value)} {st : List Value} {i : Nat} {x : Int32} (q : Nat) (hq : lv[q]? = some (i, .int x)) (d : decode cc pc = .ok (.iload i, 2)) (k : tj X Γ μ (pc + 2) lv (.int x :: st)) : tj X Γ μ pc lv st := by
  obtain ⟨p, l, e, R, s, m, args, below, meth, c, kc, ks, Q, nL⟩ := Γ
  obtain ⟨hx, hb, hml, hown, hts, hK, hN, hR, hX, hroom, hlk⟩ := hO
  intro H locs la hP hS hl
  exact lv_iload hx hb d (lv_at hl q hq) (k H locs la hP hS hl)
theorem tr_lload_n {X : xT} {own : String} {cc : ByteArray} {F L : Nat} {Γ : gT} (hO : Ok X own cc F L Γ) (pc : Nat) {μ : mT} {lv : List (Nat × Value)} {st : List Value} {i : Fin 4} {x : Int64} (q : Nat) (hq : lv[q]? = some ((i : Nat), .long x)) (d : decode cc pc = .ok (.lload_n i, 1)) (k : tj X Γ μ (pc + 1) lv (.long x :: st)) : tj X Γ μ pc lv st := by
  obtain ⟨p, l, e, R, s, m, args, below, meth, c, kc, ks, Q, nL⟩ := Γ
  obtain ⟨hx, hb, hml, hown, hts, hK, hN, hR, hX, hroom, hlk⟩ := hO
  intro H locs la hP hS hl
  exact lv_lload_n hx hb d rfl (lv_at hl q hq) (k H locs la hP hS hl)
theorem tr_lload {X : xT} {own : String} {cc : ByteArray} {F L : Nat} {Γ : gT} (hO : Ok X own cc F L Γ) (pc : Nat) {μ : mT} {lv : List (Nat × Value)} {st : List Value} {i : Nat} {x : Int64} (q : Nat) (hq : lv[q]? = some (i, .long x)) (d : decode cc pc = .ok (.lload i, 2)) (k : tj X Γ μ (pc + 2) lv (.long x :: st)) : tj X Γ μ pc lv st := by
  obtain ⟨p, l, e, R, s, m, args, below, meth, c, kc, ks, Q, nL⟩ := Γ
  obtain ⟨hx, hb, hml, hown, hts, hK, hN, hR, hX, hroom, hlk⟩ := hO
  intro H locs la hP hS hl
  exact lv_lload hx hb d (lv_at hl q hq) (k H locs la hP hS hl)
theorem tr_aload_n {X : xT} {own : String} {cc : ByteArray} {F L : Nat} {Γ : gT} (hO : Ok X own cc F L Γ) (pc : Nat) {μ : mT} {lv : List (Nat × Value)} {st : List Value} {i : Fin 4} {x : Nat} (q : Nat) (hq : lv[q]? = some ((i : Nat), .ref x)) (d : decode cc pc = .ok (.aload_n i, 1)) (k : tj X Γ μ (pc + 1) lv (.ref x :: st)) : tj X Γ μ pc lv st := by
  obtain ⟨p, l, e, R, s, m, args, below, meth, c, kc, ks, Q, nL⟩ := Γ
  obtain ⟨hx, hb, hml, hown, hts, hK, hN, hR, hX, hroom, hlk⟩ := hO
  intro H locs la hP hS hl
  exact lv_aload_n hx hb d rfl (lv_at hl q hq) (k H locs la hP hS hl)
theorem tr_aload {X : xT} {own : String} {cc : ByteArray} {F L : Nat} {Γ : gT} (hO : Ok X own cc F L Γ) (pc : Nat) {μ : mT} {lv : List (Nat × Value)} {st : List Value} {i : Nat} {x : Nat} (q : Nat) (hq : lv[q]? = some (i, .ref x)) (d : decode cc pc = .ok (.aload i, 2)) (k : tj X Γ μ (pc + 2) lv (.ref x :: st)) : tj X Γ μ pc lv st := by
  obtain ⟨p, l, e, R, s, m, args, below, meth, c, kc, ks, Q, nL⟩ := Γ
  obtain ⟨hx, hb, hml, hown, hts, hK, hN, hR, hX, hroom, hlk⟩ := hO
  intro H locs la hP hS hl
  exact lv_aload hx hb d (lv_at hl q hq) (k H locs la hP hS hl)
theorem tr_istore_n {X : xT} {own : String} {cc : ByteArray} {F L : Nat} {Γ : gT} (hO : Ok X own cc F L Γ) (pc : Nat) {μ : mT} {lv : List (Nat × Value)} {st : List Value} {i : Nat} {k4 : Fin 4} {x v : Int32} {n : Nat} {lv' : List (Nat × Value)} (ev : v = x) (hn : gL Γ = n) (hi : (k4 : Nat) = i) (h4 : i < n) (hlv : (i, Value.int v) :: lv.filter (fun q => !(q.1 == i) && !(q.1 + 1 == i && q.2.category == 2)) = lv') (d : decode cc pc = .ok (.istore_n k4, 1)) (k : tj X Γ μ (pc + 1) lv' st) : tj X Γ μ pc lv (.int x :: st) := by
  obtain ⟨p, l, e, R, s, m, args, below, meth, c, kc, ks, Q, nL⟩ := Γ
  obtain ⟨hx, hb, hml, hown, hts, hK, hN, hR, hX, hroom, hlk⟩ := hO
  intro H locs la hP hS hl
  subst hn
  subst ev
  exact lv_istore_n hx hb d hi hl h4 hlv (fun la hl => k H locs la hP hS hl)
theorem tr_istore {X : xT} {own : String} {cc : ByteArray} {F L : Nat} {Γ : gT} (hO : Ok X own cc F L Γ) (pc : Nat) {μ : mT} {lv : List (Nat × Value)} {st : List Value} {i : Nat} {x v : Int32} {n : Nat} {lv' : List (Nat × Value)} (ev : v = x) (hn : gL Γ = n) (h4 : i < n) (hlv : (i, Value.int v) :: lv.filter (fun q => !(q.1 == i) && !(q.1 + 1 == i && q.2.category == 2)) = lv') (d : decode cc pc = .ok (.istore i, 2)) (k : tj X Γ μ (pc + 2) lv' st) : tj X Γ μ pc lv (.int x :: st) := by
  obtain ⟨p, l, e, R, s, m, args, below, meth, c, kc, ks, Q, nL⟩ := Γ
  obtain ⟨hx, hb, hml, hown, hts, hK, hN, hR, hX, hroom, hlk⟩ := hO
  intro H locs la hP hS hl
  subst hn
  subst ev
  exact lv_istore hx hb d hl h4 hlv (fun la hl => k H locs la hP hS hl)
theorem tr_lstore_n {X : xT} {own : String} {cc : ByteArray} {F L : Nat} {Γ : gT} (hO : Ok X own cc F L Γ) (pc : Nat) {μ : mT} {lv : List (Nat × Value)} {st : List Value} {i : Nat} {k4 : Fin 4} {x v : Int64} {n : Nat} {lv' : List (Nat × Value)} (ev : v = x) (hn : gL Γ = n) (hi : (k4 : Nat) = i) (h4 : i + 1 < n) (hlv : (i, Value.long v) :: lv.filter (fun q => !(q.1 == i) && (!(q.1 == i + 1) && !(q.1 + 1 == i && q.2.category == 2))) = lv') (d : decode cc pc = .ok (.lstore_n k4, 1)) (k : tj X Γ μ (pc + 1) lv' st) : tj X Γ μ pc lv (.long x :: st) := by
  obtain ⟨p, l, e, R, s, m, args, below, meth, c, kc, ks, Q, nL⟩ := Γ
  obtain ⟨hx, hb, hml, hown, hts, hK, hN, hR, hX, hroom, hlk⟩ := hO
  intro H locs la hP hS hl
  subst hn
  subst ev
  exact lv_lstore_n hx hb d hi hl h4 hlv (fun la hl => k H locs la hP hS hl)
theorem tr_lstore {X : xT} {own : String} {cc : ByteArray} {F L : Nat} {Γ : gT} (hO : Ok X own cc F L Γ) (pc : Nat) {μ : mT} {lv : List (Nat × Value)} {st : List Value} {i : Nat} {x v : Int64} {n : Nat} {lv' : List (Nat × Value)} (ev : v = x) (hn : gL Γ = n) (h4 : i + 1 < n) (hlv : (i, Value.long v) :: lv.filter (fun q => !(q.1 == i) && (!(q.1 == i + 1) && !(q.1 + 1 == i && q.2.category == 2))) = lv') (d : decode cc pc = .ok (.lstore i, 2)) (k : tj X Γ μ (pc + 2) lv' st) : tj X Γ μ pc lv (.long x :: st) := by
  obtain ⟨p, l, e, R, s, m, args, below, meth, c, kc, ks, Q, nL⟩ := Γ
  obtain ⟨hx, hb, hml, hown, hts, hK, hN, hR, hX, hroom, hlk⟩ := hO
  intro H locs la hP hS hl
  subst hn
  subst ev
  exact lv_lstore hx hb d hl h4 hlv (fun la hl => k H locs la hP hS hl)
theorem tr_astore_n {X : xT} {own : String} {cc : ByteArray} {F L : Nat} {Γ : gT} (hO : Ok X own cc F L Γ) (pc : Nat) {μ : mT} {lv : List (Nat × Value)} {st : List Value} {i : Nat} {k4 : Fin 4} {x v : Nat} {n : Nat} {lv' : List (Nat × Value)} (ev : v = x) (hn : gL Γ = n) (hi : (k4 : Nat) = i) (h4 : i < n) (hlv : (i, Value.ref v) :: lv.filter (fun q => !(q.1 == i) && !(q.1 + 1 == i && q.2.category == 2)) = lv') (d : decode cc pc = .ok (.astore_n k4, 1)) (k : tj X Γ μ (pc + 1) lv' st) : tj X Γ μ pc lv (.ref x :: st) := by
  obtain ⟨p, l, e, R, s, m, args, below, meth, c, kc, ks, Q, nL⟩ := Γ
  obtain ⟨hx, hb, hml, hown, hts, hK, hN, hR, hX, hroom, hlk⟩ := hO
  intro H locs la hP hS hl
  subst hn
  subst ev
  exact lv_astore_n hx hb d hi hl h4 hlv (fun la hl => k H locs la hP hS hl)
theorem tr_iinc {X : xT} {own : String} {cc : ByteArray} {F L : Nat} {Γ : gT} (hO : Ok X own cc F L Γ) (pc : Nat) {μ : mT} {lv : List (Nat × Value)} {st : List Value} {i q : Nat} {n : Int} {x v : Int32} {nl : Nat} {lv' : List (Nat × Value)} (hn : gL Γ = nl) (hq : lv[q]? = some (i, .int x)) (hv : x + Int32.ofInt n = v) (h4 : i < nl) (hlv : (i, Value.int v) :: lv.filter (fun q => !(q.1 == i) && !(q.1 + 1 == i && q.2.category == 2)) = lv') (d : decode cc pc = .ok (.iinc i n, 3)) (k : tj X Γ μ (pc + 3) lv' st) : tj X Γ μ pc lv st := by
  obtain ⟨p, l, e, R, s, m, args, below, meth, c, kc, ks, Q, nL⟩ := Γ
  obtain ⟨hx, hb, hml, hown, hts, hK, hN, hR, hX, hroom, hlk⟩ := hO
  intro H locs la hP hS hl
  subst hn
  exact lv_iinc hx hb d hl hq hv h4 hlv (fun la hl => k H locs la hP hS hl)
theorem tr_iadd {X : xT} {own : String} {cc : ByteArray} {F L : Nat} {Γ : gT} (hO : Ok X own cc F L Γ) (pc : Nat) {μ : mT} {lv : List (Nat × Value)} {st : List Value} {x y : Int32} (d : decode cc pc = .ok (.iadd, 1)) (k : tj X Γ μ (pc + 1) lv (.int (x + y) :: st)) : tj X Γ μ pc lv (.int y :: .int x :: st) := by
  obtain ⟨p, l, e, R, s, m, args, below, meth, c, kc, ks, Q, nL⟩ := Γ
  obtain ⟨hx, hb, hml, hown, hts, hK, hN, hR, hX, hroom, hlk⟩ := hO
  intro H locs la hP hS hl
  exact lv_iadd hx hb d (k H locs la hP hS hl)
theorem tr_isub {X : xT} {own : String} {cc : ByteArray} {F L : Nat} {Γ : gT} (hO : Ok X own cc F L Γ) (pc : Nat) {μ : mT} {lv : List (Nat × Value)} {st : List Value} {x y : Int32} (d : decode cc pc = .ok (.isub, 1)) (k : tj X Γ μ (pc + 1) lv (.int (x - y) :: st)) : tj X Γ μ pc lv (.int y :: .int x :: st) := by
  obtain ⟨p, l, e, R, s, m, args, below, meth, c, kc, ks, Q, nL⟩ := Γ
  obtain ⟨hx, hb, hml, hown, hts, hK, hN, hR, hX, hroom, hlk⟩ := hO
  intro H locs la hP hS hl
  exact lv_isub hx hb d (k H locs la hP hS hl)
theorem tr_imul {X : xT} {own : String} {cc : ByteArray} {F L : Nat} {Γ : gT} (hO : Ok X own cc F L Γ) (pc : Nat) {μ : mT} {lv : List (Nat × Value)} {st : List Value} {x y : Int32} (d : decode cc pc = .ok (.imul, 1)) (k : tj X Γ μ (pc + 1) lv (.int (x * y) :: st)) : tj X Γ μ pc lv (.int y :: .int x :: st) := by
  obtain ⟨p, l, e, R, s, m, args, below, meth, c, kc, ks, Q, nL⟩ := Γ
  obtain ⟨hx, hb, hml, hown, hts, hK, hN, hR, hX, hroom, hlk⟩ := hO
  intro H locs la hP hS hl
  exact lv_imul hx hb d (k H locs la hP hS hl)
theorem tr_iand {X : xT} {own : String} {cc : ByteArray} {F L : Nat} {Γ : gT} (hO : Ok X own cc F L Γ) (pc : Nat) {μ : mT} {lv : List (Nat × Value)} {st : List Value} {x y : Int32} (d : decode cc pc = .ok (.iand, 1)) (k : tj X Γ μ (pc + 1) lv (.int (x &&& y) :: st)) : tj X Γ μ pc lv (.int y :: .int x :: st) := by
  obtain ⟨p, l, e, R, s, m, args, below, meth, c, kc, ks, Q, nL⟩ := Γ
  obtain ⟨hx, hb, hml, hown, hts, hK, hN, hR, hX, hroom, hlk⟩ := hO
  intro H locs la hP hS hl
  exact lv_iand hx hb d (k H locs la hP hS hl)
theorem tr_ior {X : xT} {own : String} {cc : ByteArray} {F L : Nat} {Γ : gT} (hO : Ok X own cc F L Γ) (pc : Nat) {μ : mT} {lv : List (Nat × Value)} {st : List Value} {x y : Int32} (d : decode cc pc = .ok (.ior, 1)) (k : tj X Γ μ (pc + 1) lv (.int (x ||| y) :: st)) : tj X Γ μ pc lv (.int y :: .int x :: st) := by
  obtain ⟨p, l, e, R, s, m, args, below, meth, c, kc, ks, Q, nL⟩ := Γ
  obtain ⟨hx, hb, hml, hown, hts, hK, hN, hR, hX, hroom, hlk⟩ := hO
  intro H locs la hP hS hl
  exact lv_ior hx hb d (k H locs la hP hS hl)
theorem tr_ishl {X : xT} {own : String} {cc : ByteArray} {F L : Nat} {Γ : gT} (hO : Ok X own cc F L Γ) (pc : Nat) {μ : mT} {lv : List (Nat × Value)} {st : List Value} {x y : Int32} (d : decode cc pc = .ok (.ishl, 1)) (k : tj X Γ μ (pc + 1) lv (.int (x <<< (y &&& 31)) :: st)) : tj X Γ μ pc lv (.int y :: .int x :: st) := by
  obtain ⟨p, l, e, R, s, m, args, below, meth, c, kc, ks, Q, nL⟩ := Γ
  obtain ⟨hx, hb, hml, hown, hts, hK, hN, hR, hX, hroom, hlk⟩ := hO
  intro H locs la hP hS hl
  exact lv_ishl hx hb d (k H locs la hP hS hl)
theorem tr_ishr {X : xT} {own : String} {cc : ByteArray} {F L : Nat} {Γ : gT} (hO : Ok X own cc F L Γ) (pc : Nat) {μ : mT} {lv : List (Nat × Value)} {st : List Value} {x y : Int32} (d : decode cc pc = .ok (.ishr, 1)) (k : tj X Γ μ (pc + 1) lv (.int (x >>> (y &&& 31)) :: st)) : tj X Γ μ pc lv (.int y :: .int x :: st) := by
  obtain ⟨p, l, e, R, s, m, args, below, meth, c, kc, ks, Q, nL⟩ := Γ
  obtain ⟨hx, hb, hml, hown, hts, hK, hN, hR, hX, hroom, hlk⟩ := hO
  intro H locs la hP hS hl
  exact lv_ishr hx hb d (k H locs la hP hS hl)
theorem tr_idiv {X : xT} {own : String} {cc : ByteArray} {F L : Nat} {Γ : gT} (hO : Ok X own cc F L Γ) (pc : Nat) {μ : mT} {lv : List (Nat × Value)} {st : List Value} {x y : Int32} (hne : ¬ y = 0) (d : decode cc pc = .ok (.idiv, 1)) (k : tj X Γ μ (pc + 1) lv (.int (x / y) :: st)) : tj X Γ μ pc lv (.int y :: .int x :: st) := by
  obtain ⟨p, l, e, R, s, m, args, below, meth, c, kc, ks, Q, nL⟩ := Γ
  obtain ⟨hx, hb, hml, hown, hts, hK, hN, hR, hX, hroom, hlk⟩ := hO
  intro H locs la hP hS hl
  exact lv_idiv hx hb d hne (k H locs la hP hS hl)
theorem tr_lrem {X : xT} {own : String} {cc : ByteArray} {F L : Nat} {Γ : gT} (hO : Ok X own cc F L Γ) (pc : Nat) {μ : mT} {lv : List (Nat × Value)} {st : List Value} {x y : Int64} (hne : ¬ y = 0) (d : decode cc pc = .ok (.lrem, 1)) (k : tj X Γ μ (pc + 1) lv (.long (x - x / y * y) :: st)) : tj X Γ μ pc lv (.long y :: .long x :: st) := by
  obtain ⟨p, l, e, R, s, m, args, below, meth, c, kc, ks, Q, nL⟩ := Γ
  obtain ⟨hx, hb, hml, hown, hts, hK, hN, hR, hX, hroom, hlk⟩ := hO
  intro H locs la hP hS hl
  exact lv_lrem hx hb d hne (k H locs la hP hS hl)
theorem tr_ldiv {X : xT} {own : String} {cc : ByteArray} {F L : Nat} {Γ : gT} (hO : Ok X own cc F L Γ) (pc : Nat) {μ : mT} {lv : List (Nat × Value)} {st : List Value} {x y : Int64} (hne : ¬ y = 0) (d : decode cc pc = .ok (.ldiv, 1)) (k : tj X Γ μ (pc + 1) lv (.long (x / y) :: st)) : tj X Γ μ pc lv (.long y :: .long x :: st) := by
  obtain ⟨p, l, e, R, s, m, args, below, meth, c, kc, ks, Q, nL⟩ := Γ
  obtain ⟨hx, hb, hml, hown, hts, hK, hN, hR, hX, hroom, hlk⟩ := hO
  intro H locs la hP hS hl
  exact lv_ldiv hx hb d hne (k H locs la hP hS hl)
theorem tr_land {X : xT} {own : String} {cc : ByteArray} {F L : Nat} {Γ : gT} (hO : Ok X own cc F L Γ) (pc : Nat) {μ : mT} {lv : List (Nat × Value)} {st : List Value} {x y : Int64} (d : decode cc pc = .ok (.land, 1)) (k : tj X Γ μ (pc + 1) lv (.long (x &&& y) :: st)) : tj X Γ μ pc lv (.long y :: .long x :: st) := by
  obtain ⟨p, l, e, R, s, m, args, below, meth, c, kc, ks, Q, nL⟩ := Γ
  obtain ⟨hx, hb, hml, hown, hts, hK, hN, hR, hX, hroom, hlk⟩ := hO
  intro H locs la hP hS hl
  exact lv_land hx hb d (k H locs la hP hS hl)
theorem tr_lor {X : xT} {own : String} {cc : ByteArray} {F L : Nat} {Γ : gT} (hO : Ok X own cc F L Γ) (pc : Nat) {μ : mT} {lv : List (Nat × Value)} {st : List Value} {x y : Int64} (d : decode cc pc = .ok (.lor, 1)) (k : tj X Γ μ (pc + 1) lv (.long (x ||| y) :: st)) : tj X Γ μ pc lv (.long y :: .long x :: st) := by
  obtain ⟨p, l, e, R, s, m, args, below, meth, c, kc, ks, Q, nL⟩ := Γ
  obtain ⟨hx, hb, hml, hown, hts, hK, hN, hR, hX, hroom, hlk⟩ := hO
  intro H locs la hP hS hl
  exact lv_lor hx hb d (k H locs la hP hS hl)
def shlL (x : Int64) (y : Int32) : Int64 := x <<< (y.toInt64 &&& 63)
def shrL (x : Int64) (y : Int32) : Int64 := (x.toUInt64 >>> (y.toInt64.toUInt64 &&& Int64.toUInt64 63)).toInt64
def toC (x : Int32) : Int32 := (x.toUInt32 % 65536).toInt32
theorem tr_lshl {X : xT} {own : String} {cc : ByteArray} {F L : Nat} {Γ : gT} (hO : Ok X own cc F L Γ) (pc : Nat) {μ : mT} {lv : List (Nat × Value)} {st : List Value} {x : Int64} {y : Int32} (d : decode cc pc = .ok (.lshl, 1)) (k : tj X Γ μ (pc + 1) lv (.long (shlL x y) :: st)) : tj X Γ μ pc lv (.int y :: .long x :: st) := by
  obtain ⟨p, l, e, R, s, m, args, below, meth, c, kc, ks, Q, nL⟩ := Γ
  obtain ⟨hx, hb, hml, hown, hts, hK, hN, hR, hX, hroom, hlk⟩ := hO
  intro H locs la hP hS hl
  exact lv_lshl hx hb d rfl (k H locs la hP hS hl)
theorem tr_lushr {X : xT} {own : String} {cc : ByteArray} {F L : Nat} {Γ : gT} (hO : Ok X own cc F L Γ) (pc : Nat) {μ : mT} {lv : List (Nat × Value)} {st : List Value} {x : Int64} {y : Int32} (d : decode cc pc = .ok (.lushr, 1)) (k : tj X Γ μ (pc + 1) lv (.long (shrL x y) :: st)) : tj X Γ μ pc lv (.int y :: .long x :: st) := by
  obtain ⟨p, l, e, R, s, m, args, below, meth, c, kc, ks, Q, nL⟩ := Γ
  obtain ⟨hx, hb, hml, hown, hts, hK, hN, hR, hX, hroom, hlk⟩ := hO
  intro H locs la hP hS hl
  exact lv_lushr hx hb d rfl (k H locs la hP hS hl)
theorem tr_i2l {X : xT} {own : String} {cc : ByteArray} {F L : Nat} {Γ : gT} (hO : Ok X own cc F L Γ) (pc : Nat) {μ : mT} {lv : List (Nat × Value)} {st : List Value} {x : Int32} (d : decode cc pc = .ok (.i2l, 1)) (k : tj X Γ μ (pc + 1) lv (.long x.toInt64 :: st)) : tj X Γ μ pc lv (.int x :: st) := by
  obtain ⟨p, l, e, R, s, m, args, below, meth, c, kc, ks, Q, nL⟩ := Γ
  obtain ⟨hx, hb, hml, hown, hts, hK, hN, hR, hX, hroom, hlk⟩ := hO
  intro H locs la hP hS hl
  exact lv_i2l hx hb d rfl (k H locs la hP hS hl)
theorem tr_l2i {X : xT} {own : String} {cc : ByteArray} {F L : Nat} {Γ : gT} (hO : Ok X own cc F L Γ) (pc : Nat) {μ : mT} {lv : List (Nat × Value)} {st : List Value} {x : Int64} (d : decode cc pc = .ok (.l2i, 1)) (k : tj X Γ μ (pc + 1) lv (.int x.toInt32 :: st)) : tj X Γ μ pc lv (.long x :: st) := by
  obtain ⟨p, l, e, R, s, m, args, below, meth, c, kc, ks, Q, nL⟩ := Γ
  obtain ⟨hx, hb, hml, hown, hts, hK, hN, hR, hX, hroom, hlk⟩ := hO
  intro H locs la hP hS hl
  exact lv_l2i hx hb d rfl (k H locs la hP hS hl)
theorem tr_i2c {X : xT} {own : String} {cc : ByteArray} {F L : Nat} {Γ : gT} (hO : Ok X own cc F L Γ) (pc : Nat) {μ : mT} {lv : List (Nat × Value)} {st : List Value} {x : Int32} (d : decode cc pc = .ok (.i2c, 1)) (k : tj X Γ μ (pc + 1) lv (.int (toC x) :: st)) : tj X Γ μ pc lv (.int x :: st) := by
  obtain ⟨p, l, e, R, s, m, args, below, meth, c, kc, ks, Q, nL⟩ := Γ
  obtain ⟨hx, hb, hml, hown, hts, hK, hN, hR, hX, hroom, hlk⟩ := hO
  intro H locs la hP hS hl
  exact lv_i2c hx hb d rfl (k H locs la hP hS hl)
theorem tr_lcmp {X : xT} {own : String} {cc : ByteArray} {F L : Nat} {Γ : gT} (hO : Ok X own cc F L Γ) (pc : Nat) {μ : mT} {lv : List (Nat × Value)} {st : List Value} {x y : Int64} (d : decode cc pc = .ok (.lcmp, 1)) (k : tj X Γ μ (pc + 1) lv (.int (lg_cmp x y) :: st)) : tj X Γ μ pc lv (.long y :: .long x :: st) := by
  obtain ⟨p, l, e, R, s, m, args, below, meth, c, kc, ks, Q, nL⟩ := Γ
  obtain ⟨hx, hb, hml, hown, hts, hK, hN, hR, hX, hroom, hlk⟩ := hO
  intro H locs la hP hS hl
  exact W.lcmp hx hb d (k H locs la hP hS hl)
theorem tr_pop {X : xT} {own : String} {cc : ByteArray} {F L : Nat} {Γ : gT} (hO : Ok X own cc F L Γ) (pc : Nat) {μ : mT} {lv : List (Nat × Value)} {st : List Value} {v : Value} (hc : v.category = 1) (d : decode cc pc = .ok (.pop, 1)) (k : tj X Γ μ (pc + 1) lv st) : tj X Γ μ pc lv (v :: st) := by
  obtain ⟨p, l, e, R, s, m, args, below, meth, c, kc, ks, Q, nL⟩ := Γ
  obtain ⟨hx, hb, hml, hown, hts, hK, hN, hR, hX, hroom, hlk⟩ := hO
  intro H locs la hP hS hl
  exact lv_pop hx hb d hc (k H locs la hP hS hl)
theorem tr_dup {X : xT} {own : String} {cc : ByteArray} {F L : Nat} {Γ : gT} (hO : Ok X own cc F L Γ) (pc : Nat) {μ : mT} {lv : List (Nat × Value)} {st : List Value} {v : Value} (hc : v.category = 1) (d : decode cc pc = .ok (.dup, 1)) (k : tj X Γ μ (pc + 1) lv (v :: v :: st)) : tj X Γ μ pc lv (v :: st) := by
  obtain ⟨p, l, e, R, s, m, args, below, meth, c, kc, ks, Q, nL⟩ := Γ
  obtain ⟨hx, hb, hml, hown, hts, hK, hN, hR, hX, hroom, hlk⟩ := hO
  intro H locs la hP hS hl
  exact lv_dup hx hb d hc (k H locs la hP hS hl)
theorem tr_dup2 {X : xT} {own : String} {cc : ByteArray} {F L : Nat} {Γ : gT} (hO : Ok X own cc F L Γ) (pc : Nat) {μ : mT} {lv : List (Nat × Value)} {st : List Value} {v w : Value} (hc : v.category = 1) (hw : w.category = 1) (d : decode cc pc = .ok (.dup2, 1)) (k : tj X Γ μ (pc + 1) lv (v :: w :: v :: w :: st)) : tj X Γ μ pc lv (v :: w :: st) := by
  obtain ⟨p, l, e, R, s, m, args, below, meth, c, kc, ks, Q, nL⟩ := Γ
  obtain ⟨hx, hb, hml, hown, hts, hK, hN, hR, hX, hroom, hlk⟩ := hO
  intro H locs la hP hS hl
  exact lv_dup2_11 hx hb d hc hw (k H locs la hP hS hl)
theorem tr_goto {X : xT} {own : String} {cc : ByteArray} {F L : Nat} {Γ : gT} (hO : Ok X own cc F L Γ) (pc : Nat) {μ : mT} {lv : List (Nat × Value)} {st : List Value} {off : Int} (tgt : Nat) (ht : (pc : Int) + off = (tgt : Int)) (d : decode cc pc = .ok (.goto off, 3)) (k : tj X Γ μ tgt lv st) : tj X Γ μ pc lv st := by
  obtain ⟨p, l, e, R, s, m, args, below, meth, c, kc, ks, Q, nL⟩ := Γ
  obtain ⟨hx, hb, hml, hown, hts, hK, hN, hR, hX, hroom, hlk⟩ := hO
  intro H locs la hP hS hl
  exact lv_goto hx hb d ht (k H locs la hP hS hl)
theorem tr_if_eq {X : xT} {own : String} {cc : ByteArray} {F L : Nat} {Γ : gT} (hO : Ok X own cc F L Γ) (pc : Nat) {μ : mT} {lv : List (Nat × Value)} {st : List Value} {x : Int32} {off : Int} (tgt : Nat) (ht : (pc : Int) + off = (tgt : Int)) (d : decode cc pc = .ok (.ifCond .eq off, 3)) (kt : x = 0 → tj X Γ μ tgt lv st) (kf : ¬ (x = 0) → tj X Γ μ (pc + 3) lv st) : tj X Γ μ pc lv (.int x :: st) := by
  obtain ⟨p, l, e, R, s, m, args, below, meth, c, kc, ks, Q, nL⟩ := Γ
  obtain ⟨hx, hb, hml, hown, hts, hK, hN, hR, hX, hroom, hlk⟩ := hO
  intro H locs la hP hS hl
  exact lv_if_eq hx hb d ht (fun h => kt h H locs la hP hS hl) (fun h => kf h H locs la hP hS hl)
theorem tr_icmp_eq {X : xT} {own : String} {cc : ByteArray} {F L : Nat} {Γ : gT} (hO : Ok X own cc F L Γ) (pc : Nat) {μ : mT} {lv : List (Nat × Value)} {st : List Value} {x y : Int32} {off : Int} (tgt : Nat) (ht : (pc : Int) + off = (tgt : Int)) (d : decode cc pc = .ok (.if_icmp .eq off, 3)) (kt : x = y → tj X Γ μ tgt lv st) (kf : ¬ (x = y) → tj X Γ μ (pc + 3) lv st) : tj X Γ μ pc lv (.int y :: .int x :: st) := by
  obtain ⟨p, l, e, R, s, m, args, below, meth, c, kc, ks, Q, nL⟩ := Γ
  obtain ⟨hx, hb, hml, hown, hts, hK, hN, hR, hX, hroom, hlk⟩ := hO
  intro H locs la hP hS hl
  exact lv_icmp_eq hx hb d ht (fun h => kt h H locs la hP hS hl) (fun h => kf h H locs la hP hS hl)
theorem tr_if_ne {X : xT} {own : String} {cc : ByteArray} {F L : Nat} {Γ : gT} (hO : Ok X own cc F L Γ) (pc : Nat) {μ : mT} {lv : List (Nat × Value)} {st : List Value} {x : Int32} {off : Int} (tgt : Nat) (ht : (pc : Int) + off = (tgt : Int)) (d : decode cc pc = .ok (.ifCond .ne off, 3)) (kt : ¬ x = 0 → tj X Γ μ tgt lv st) (kf : x = 0 → tj X Γ μ (pc + 3) lv st) : tj X Γ μ pc lv (.int x :: st) := by
  obtain ⟨p, l, e, R, s, m, args, below, meth, c, kc, ks, Q, nL⟩ := Γ
  obtain ⟨hx, hb, hml, hown, hts, hK, hN, hR, hX, hroom, hlk⟩ := hO
  intro H locs la hP hS hl
  exact lv_if_ne hx hb d ht (fun h => kt h H locs la hP hS hl) (fun h => kf h H locs la hP hS hl)
theorem tr_icmp_ne {X : xT} {own : String} {cc : ByteArray} {F L : Nat} {Γ : gT} (hO : Ok X own cc F L Γ) (pc : Nat) {μ : mT} {lv : List (Nat × Value)} {st : List Value} {x y : Int32} {off : Int} (tgt : Nat) (ht : (pc : Int) + off = (tgt : Int)) (d : decode cc pc = .ok (.if_icmp .ne off, 3)) (kt : ¬ x = y → tj X Γ μ tgt lv st) (kf : x = y → tj X Γ μ (pc + 3) lv st) : tj X Γ μ pc lv (.int y :: .int x :: st) := by
  obtain ⟨p, l, e, R, s, m, args, below, meth, c, kc, ks, Q, nL⟩ := Γ
  obtain ⟨hx, hb, hml, hown, hts, hK, hN, hR, hX, hroom, hlk⟩ := hO
  intro H locs la hP hS hl
  exact lv_icmp_ne hx hb d ht (fun h => kt h H locs la hP hS hl) (fun h => kf h H locs la hP hS hl)
theorem tr_if_lt {X : xT} {own : String} {cc : ByteArray} {F L : Nat} {Γ : gT} (hO : Ok X own cc F L Γ) (pc : Nat) {μ : mT} {lv : List (Nat × Value)} {st : List Value} {x : Int32} {off : Int} (tgt : Nat) (ht : (pc : Int) + off = (tgt : Int)) (d : decode cc pc = .ok (.ifCond .lt off, 3)) (kt : x < 0 → tj X Γ μ tgt lv st) (kf : ¬ (x < 0) → tj X Γ μ (pc + 3) lv st) : tj X Γ μ pc lv (.int x :: st) := by
  obtain ⟨p, l, e, R, s, m, args, below, meth, c, kc, ks, Q, nL⟩ := Γ
  obtain ⟨hx, hb, hml, hown, hts, hK, hN, hR, hX, hroom, hlk⟩ := hO
  intro H locs la hP hS hl
  exact lv_if_lt hx hb d ht (fun h => kt h H locs la hP hS hl) (fun h => kf h H locs la hP hS hl)
theorem tr_icmp_lt {X : xT} {own : String} {cc : ByteArray} {F L : Nat} {Γ : gT} (hO : Ok X own cc F L Γ) (pc : Nat) {μ : mT} {lv : List (Nat × Value)} {st : List Value} {x y : Int32} {off : Int} (tgt : Nat) (ht : (pc : Int) + off = (tgt : Int)) (d : decode cc pc = .ok (.if_icmp .lt off, 3)) (kt : x < y → tj X Γ μ tgt lv st) (kf : ¬ (x < y) → tj X Γ μ (pc + 3) lv st) : tj X Γ μ pc lv (.int y :: .int x :: st) := by
  obtain ⟨p, l, e, R, s, m, args, below, meth, c, kc, ks, Q, nL⟩ := Γ
  obtain ⟨hx, hb, hml, hown, hts, hK, hN, hR, hX, hroom, hlk⟩ := hO
  intro H locs la hP hS hl
  exact lv_icmp_lt hx hb d ht (fun h => kt h H locs la hP hS hl) (fun h => kf h H locs la hP hS hl)
theorem tr_if_ge {X : xT} {own : String} {cc : ByteArray} {F L : Nat} {Γ : gT} (hO : Ok X own cc F L Γ) (pc : Nat) {μ : mT} {lv : List (Nat × Value)} {st : List Value} {x : Int32} {off : Int} (tgt : Nat) (ht : (pc : Int) + off = (tgt : Int)) (d : decode cc pc = .ok (.ifCond .ge off, 3)) (kt : 0 ≤ x → tj X Γ μ tgt lv st) (kf : ¬ (0 ≤ x) → tj X Γ μ (pc + 3) lv st) : tj X Γ μ pc lv (.int x :: st) := by
  obtain ⟨p, l, e, R, s, m, args, below, meth, c, kc, ks, Q, nL⟩ := Γ
  obtain ⟨hx, hb, hml, hown, hts, hK, hN, hR, hX, hroom, hlk⟩ := hO
  intro H locs la hP hS hl
  exact lv_if_ge hx hb d ht (fun h => kt h H locs la hP hS hl) (fun h => kf h H locs la hP hS hl)
theorem tr_icmp_ge {X : xT} {own : String} {cc : ByteArray} {F L : Nat} {Γ : gT} (hO : Ok X own cc F L Γ) (pc : Nat) {μ : mT} {lv : List (Nat × Value)} {st : List Value} {x y : Int32} {off : Int} (tgt : Nat) (ht : (pc : Int) + off = (tgt : Int)) (d : decode cc pc = .ok (.if_icmp .ge off, 3)) (kt : y ≤ x → tj X Γ μ tgt lv st) (kf : ¬ (y ≤ x) → tj X Γ μ (pc + 3) lv st) : tj X Γ μ pc lv (.int y :: .int x :: st) := by
  obtain ⟨p, l, e, R, s, m, args, below, meth, c, kc, ks, Q, nL⟩ := Γ
  obtain ⟨hx, hb, hml, hown, hts, hK, hN, hR, hX, hroom, hlk⟩ := hO
  intro H locs la hP hS hl
  exact lv_icmp_ge hx hb d ht (fun h => kt h H locs la hP hS hl) (fun h => kf h H locs la hP hS hl)
theorem tr_if_gt {X : xT} {own : String} {cc : ByteArray} {F L : Nat} {Γ : gT} (hO : Ok X own cc F L Γ) (pc : Nat) {μ : mT} {lv : List (Nat × Value)} {st : List Value} {x : Int32} {off : Int} (tgt : Nat) (ht : (pc : Int) + off = (tgt : Int)) (d : decode cc pc = .ok (.ifCond .gt off, 3)) (kt : 0 < x → tj X Γ μ tgt lv st) (kf : ¬ (0 < x) → tj X Γ μ (pc + 3) lv st) : tj X Γ μ pc lv (.int x :: st) := by
  obtain ⟨p, l, e, R, s, m, args, below, meth, c, kc, ks, Q, nL⟩ := Γ
  obtain ⟨hx, hb, hml, hown, hts, hK, hN, hR, hX, hroom, hlk⟩ := hO
  intro H locs la hP hS hl
  exact lv_if_gt hx hb d ht (fun h => kt h H locs la hP hS hl) (fun h => kf h H locs la hP hS hl)
theorem tr_icmp_gt {X : xT} {own : String} {cc : ByteArray} {F L : Nat} {Γ : gT} (hO : Ok X own cc F L Γ) (pc : Nat) {μ : mT} {lv : List (Nat × Value)} {st : List Value} {x y : Int32} {off : Int} (tgt : Nat) (ht : (pc : Int) + off = (tgt : Int)) (d : decode cc pc = .ok (.if_icmp .gt off, 3)) (kt : y < x → tj X Γ μ tgt lv st) (kf : ¬ (y < x) → tj X Γ μ (pc + 3) lv st) : tj X Γ μ pc lv (.int y :: .int x :: st) := by
  obtain ⟨p, l, e, R, s, m, args, below, meth, c, kc, ks, Q, nL⟩ := Γ
  obtain ⟨hx, hb, hml, hown, hts, hK, hN, hR, hX, hroom, hlk⟩ := hO
  intro H locs la hP hS hl
  exact lv_icmp_gt hx hb d ht (fun h => kt h H locs la hP hS hl) (fun h => kf h H locs la hP hS hl)
theorem tr_if_le {X : xT} {own : String} {cc : ByteArray} {F L : Nat} {Γ : gT} (hO : Ok X own cc F L Γ) (pc : Nat) {μ : mT} {lv : List (Nat × Value)} {st : List Value} {x : Int32} {off : Int} (tgt : Nat) (ht : (pc : Int) + off = (tgt : Int)) (d : decode cc pc = .ok (.ifCond .le off, 3)) (kt : x ≤ 0 → tj X Γ μ tgt lv st) (kf : ¬ (x ≤ 0) → tj X Γ μ (pc + 3) lv st) : tj X Γ μ pc lv (.int x :: st) := by
  obtain ⟨p, l, e, R, s, m, args, below, meth, c, kc, ks, Q, nL⟩ := Γ
  obtain ⟨hx, hb, hml, hown, hts, hK, hN, hR, hX, hroom, hlk⟩ := hO
  intro H locs la hP hS hl
  exact lv_if_le hx hb d ht (fun h => kt h H locs la hP hS hl) (fun h => kf h H locs la hP hS hl)
theorem tr_icmp_le {X : xT} {own : String} {cc : ByteArray} {F L : Nat} {Γ : gT} (hO : Ok X own cc F L Γ) (pc : Nat) {μ : mT} {lv : List (Nat × Value)} {st : List Value} {x y : Int32} {off : Int} (tgt : Nat) (ht : (pc : Int) + off = (tgt : Int)) (d : decode cc pc = .ok (.if_icmp .le off, 3)) (kt : x ≤ y → tj X Γ μ tgt lv st) (kf : ¬ (x ≤ y) → tj X Γ μ (pc + 3) lv st) : tj X Γ μ pc lv (.int y :: .int x :: st) := by
  obtain ⟨p, l, e, R, s, m, args, below, meth, c, kc, ks, Q, nL⟩ := Γ
  obtain ⟨hx, hb, hml, hown, hts, hK, hN, hR, hX, hroom, hlk⟩ := hO
  intro H locs la hP hS hl
  exact lv_icmp_le hx hb d ht (fun h => kt h H locs la hP hS hl) (fun h => kf h H locs la hP hS hl)
theorem tr_tabIn {X : xT} {own : String} {cc : ByteArray} {F L : Nat} {Γ : gT} (hO : Ok X own cc F L Γ) (pc : Nat) {μ : mT} {lv : List (Nat × Value)} {st : List Value} {dflt lo hi : Int} {offs : Array Int} {len : Nat} {x : Int32} {off : Int} (tgt : Nat) (h1 : ¬ x.toInt < lo) (h2 : ¬ hi < x.toInt) (ho : offs[(x.toInt - lo).toNat]? = some off) (ht : (pc : Int) + off = (tgt : Int)) (d : decode cc pc = .ok (.tableswitch dflt lo hi offs, len)) (k : tj X Γ μ tgt lv st) : tj X Γ μ pc lv (.int x :: st) := by
  obtain ⟨p, l, e, R, s, m, args, below, meth, c, kc, ks, Q, nL⟩ := Γ
  obtain ⟨hx, hb, hml, hown, hts, hK, hN, hR, hX, hroom, hlk⟩ := hO
  intro H locs la hP hS hl
  exact lv_tableIn hx hb d h1 h2 ho ht (k H locs la hP hS hl)
theorem tr_tabOut {X : xT} {own : String} {cc : ByteArray} {F L : Nat} {Γ : gT} (hO : Ok X own cc F L Γ) (pc : Nat) {μ : mT} {lv : List (Nat × Value)} {st : List Value} {dflt lo hi : Int} {offs : Array Int} {len : Nat} {x : Int32} (tgt : Nat) (h : x.toInt < lo ∨ hi < x.toInt) (ht : (pc : Int) + dflt = (tgt : Int)) (d : decode cc pc = .ok (.tableswitch dflt lo hi offs, len)) (k : tj X Γ μ tgt lv st) : tj X Γ μ pc lv (.int x :: st) := by
  obtain ⟨p, l, e, R, s, m, args, below, meth, c, kc, ks, Q, nL⟩ := Γ
  obtain ⟨hx, hb, hml, hown, hts, hK, hN, hR, hX, hroom, hlk⟩ := hO
  intro H locs la hP hS hl
  exact lv_tableOut hx hb d h ht (k H locs la hP hS hl)
theorem tr_get {X : xT} {own : String} {cc : ByteArray} {F L : Nat} {Γ : gT} (hO : Ok X own cc F L Γ) (pc : Nat) {μ : mT} {lv : List (Nat × Value)} {st : List Value} {κ j ci idx N k : Nat} {C : String} {Tb : u_T} {fs : List Value} {v : Value} (hv : x_v κ j) (hc : vwCl[ci]? = some (C, Tb, N)) (he : x_c X κ j (μ κ j) = .inr (ci, fs)) (hin : ∀ w ∈ u_ws C Tb N, w ∈ big) (hk : k < N) (hw : Cond.fieldLink own idx C (Tb k).2.1 (Tb k).2.2.1 ∈ big) (hs : (Tb k).1 = C) (hf : fs[k]? = some v) (d : decode cc pc = .ok (.getfield idx, 3)) (kk : tj X Γ μ (pc + 3) lv (v :: st)) : tj X Γ μ pc lv (.ref (X.1 κ j) :: st) := by
  obtain ⟨p, l, e, R, s, m, args, below, meth, c, kc, ks, Q, nL⟩ := Γ
  obtain ⟨hx, hb, hml, hown, hts, hK, hN, hR, hX, hroom, hlk⟩ := hO
  intro H locs la hP hS hl
  exact va_get (D := X.2.1) (ci := ci) (v := v) (C := C) (T := Tb) (N := N) hx hb hts hin hown hK hP (x_n κ j) (by rw [x_wg X μ hv, he]) hc k hk (hts _ hw) (fun x h => by rw [hs] at h; exact h) hf d (kk H locs la hP hS hl)
theorem tr_getN {X : xT} {own : String} {cc : ByteArray} {F L : Nat} {Γ : gT} (hO : Ok X own cc F L Γ) (pc : Nat) {μ : mT} {lv : List (Nat × Value)} {st : List Value} {κ j ci idx N k : Nat} {C : String} {Tb : u_T} {fs : List Value} {v : Value} {host : String} (hv : x_v κ j) (hc : vwCl[ci]? = some (C, Tb, N)) (he : x_c X κ j (μ κ j) = .inr (ci, fs)) (hin : ∀ w ∈ u_ws C Tb N, w ∈ big) (hk : k < N) (hw : (own, idx, C, (Tb k).2.1, (Tb k).2.2.1, host) ∈ nF) (hs : (Tb k).1 = C) (hf : fs[k]? = some v) (d : decode cc pc = .ok (.getfield idx, 3)) (kk : tj X Γ μ (pc + 3) lv (v :: st)) : tj X Γ μ pc lv (.ref (X.1 κ j) :: st) := by
  obtain ⟨p, l, e, R, s, m, args, below, meth, c, kc, ks, Q, nL⟩ := Γ
  obtain ⟨hx, hb, hml, hown, hts, hK, hN, hR, hX, hroom, hlk⟩ := hO
  intro H locs la hP hS hl
  exact va_getN (D := X.2.1) (ci := ci) (v := v) (C := C) (T := Tb) (N := N) hx hb hts hin hown hK hP (x_n κ j) (by rw [x_wg X μ hv, he]) hc k hk (va_Nw.use rfl (hN.1 _ hw)) (fun x h => by rw [hs] at h; exact h) hf d (kk H locs la hP hS hl)
theorem tr_put {X : xT} {own : String} {cc : ByteArray} {F L : Nat} {Γ : gT} (hO : Ok X own cc F L Γ) (pc : Nat) {μ : mT} {lv : List (Nat × Value)} {st : List Value} {κ j ci idx N k : Nat} {C : String} {Tb : u_T} {fs : List Value} {x : Int32} {ty : FieldType} {μ1 : mT} (e1 : μ1 = upM μ κ j k x) (hv : x_v κ j) (hc : vwCl[ci]? = some (C, Tb, N)) (he : x_c X κ j (μ κ j) = .inr (ci, fs)) (he2 : x_c X κ j (upd (μ κ j) k x) = .inr (ci, fs.set k (.int x))) (hin : ∀ w ∈ u_ws C Tb N, w ∈ big) (ty0 : Nat → FieldType) (hty : ∀ k, k < N → parseFieldDescriptor (Tb k).2.2.1 = some (ty0 k)) (hnm : ∀ a, a < N → ∀ b, b < N → a ≠ b → (Tb a).2.1 ≠ (Tb b).2.1) (hk : k < N) (hw : Cond.fieldLink own idx C (Tb k).2.1 (Tb k).2.2.1 ∈ big) (hs : (Tb k).1 = C) (hfin : (Tb k).2.2.2 = false) (hd : parseFieldDescriptor (Tb k).2.2.1 = some ty) (hn : narrow ty (.int x) = .int x) (hfit : fits ty (.int x) = true) (hlf : k < fs.length) (d : decode cc pc = .ok (.putfield idx, 3)) (kk : tj X Γ μ1 (pc + 3) lv st) : tj X Γ μ pc lv (.int x :: .ref (X.1 κ j) :: st) := by
  obtain ⟨p, l, e, R, s, m, args, below, meth, c, kc, ks, Q, nL⟩ := Γ
  obtain ⟨hx, hb, hml, hown, hts, hK, hN, hR, hX, hroom, hlk⟩ := hO
  intro H locs la hP hS hl
  subst e1
  refine va_put (D := X.2.1) (ci := ci) (v := .int x) (ty := ty) (C := C) (T := Tb) (N := N) hx hb hts hin ty0 hty hnm hown hK hP (x_D hX μ) hS (x_n κ j) (by rw [x_wg X μ hv, he]) hc k hk (hts _ hw) (fun x h => by rw [hs] at h; exact h) hfin hd hn hfit hlf d (fun H1 locs1 hP1 _ hS1 => ?_)
  rw [← he2, x_ws X μ hv] at hP1
  exact kk H1 locs1 la hP1 hS1 hl
theorem tr_iald {X : xT} {own : String} {cc : ByteArray} {F L : Nat} {Γ : gT} (hO : Ok X own cc F L Γ) (pc : Nat) {μ : mT} {lv : List (Nat × Value)} {st : List Value} {κ j n : Nat} {i : Int32} (hv : x_v κ j) (ha : x_ai κ 0 n) (hi : inb i n = true) (d : decode cc pc = .ok (.iaload, 1)) (k : tj X Γ μ (pc + 1) lv (.int (μ κ j i.toNatClampNeg) :: st)) : tj X Γ μ pc lv (.int i :: .ref (X.1 κ j) :: st) := by
  obtain ⟨p, l, e, R, s, m, args, below, meth, c, kc, ks, Q, nL⟩ := Γ
  obtain ⟨hx, hb, hml, hown, hts, hK, hN, hR, hX, hroom, hlk⟩ := hO
  intro H locs la hP hS hl
  exact va_iald hx hb hK hP (x_n κ j) 0 (by rw [x_wg X μ hv, ha]) rfl (inb_in hi) d (k H locs la hP hS hl)
theorem tr_zald {X : xT} {own : String} {cc : ByteArray} {F L : Nat} {Γ : gT} (hO : Ok X own cc F L Γ) (pc : Nat) {μ : mT} {lv : List (Nat × Value)} {st : List Value} {κ j n : Nat} {i : Int32} (hv : x_v κ j) (ha : x_ai κ 1 n) (hi : inb i n = true) (d : decode cc pc = .ok (.baload, 1)) (k : tj X Γ μ (pc + 1) lv (.int (μ κ j i.toNatClampNeg) :: st)) : tj X Γ μ pc lv (.int i :: .ref (X.1 κ j) :: st) := by
  obtain ⟨p, l, e, R, s, m, args, below, meth, c, kc, ks, Q, nL⟩ := Γ
  obtain ⟨hx, hb, hml, hown, hts, hK, hN, hR, hX, hroom, hlk⟩ := hO
  intro H locs la hP hS hl
  exact va_zald hx hb hK hP (x_n κ j) 1 (by rw [x_wg X μ hv, ha]) rfl (inb_in hi) d (k H locs la hP hS hl)
theorem tr_cald {X : xT} {own : String} {cc : ByteArray} {F L : Nat} {Γ : gT} (hO : Ok X own cc F L Γ) (pc : Nat) {μ : mT} {lv : List (Nat × Value)} {st : List Value} {κ j n : Nat} {i : Int32} (hv : x_v κ j) (ha : x_ai κ 2 n) (hi : inb i n = true) (d : decode cc pc = .ok (.caload, 1)) (k : tj X Γ μ (pc + 1) lv (.int (μ κ j i.toNatClampNeg) :: st)) : tj X Γ μ pc lv (.int i :: .ref (X.1 κ j) :: st) := by
  obtain ⟨p, l, e, R, s, m, args, below, meth, c, kc, ks, Q, nL⟩ := Γ
  obtain ⟨hx, hb, hml, hown, hts, hK, hN, hR, hX, hroom, hlk⟩ := hO
  intro H locs la hP hS hl
  exact va_cald hx hb hK hP (x_n κ j) 2 (by rw [x_wg X μ hv, ha]) rfl (inb_in hi) d (k H locs la hP hS hl)
theorem tr_iast {X : xT} {own : String} {cc : ByteArray} {F L : Nat} {Γ : gT} (hO : Ok X own cc F L Γ) (pc : Nat) {μ : mT} {lv : List (Nat × Value)} {st : List Value} {κ j n : Nat} {i x : Int32} {μ1 : mT} (e1 : μ1 = upM μ κ j i.toNatClampNeg x) (hv : x_v κ j) (ha : x_ai κ 0 n) (hi : inb i n = true) (d : decode cc pc = .ok (.iastore, 1)) (k : tj X Γ μ1 (pc + 1) lv st) : tj X Γ μ pc lv (.int x :: .int i :: .ref (X.1 κ j) :: st) := by
  obtain ⟨p, l, e, R, s, m, args, below, meth, c, kc, ks, Q, nL⟩ := Γ
  obtain ⟨hx, hb, hml, hown, hts, hK, hN, hR, hX, hroom, hlk⟩ := hO
  intro H locs la hP hS hl
  subst e1
  refine va_iast hx hb hK hP (x_D hX μ) hS (x_n κ j) 0 (by rw [x_wg X μ hv, ha]) rfl (inb_in hi) d (fun H1 locs1 hP1 _ hS1 => ?_)
  rw [← ha X j, x_ws X μ hv] at hP1
  exact k H1 locs1 la hP1 hS1 hl
theorem tr_zast {X : xT} {own : String} {cc : ByteArray} {F L : Nat} {Γ : gT} (hO : Ok X own cc F L Γ) (pc : Nat) {μ : mT} {lv : List (Nat × Value)} {st : List Value} {κ j n : Nat} {i x : Int32} {μ1 : mT} (e1 : μ1 = upM μ κ j i.toNatClampNeg x) (hnar : vp_nar .boolean x = x) (hv : x_v κ j) (ha : x_ai κ 1 n) (hi : inb i n = true) (d : decode cc pc = .ok (.bastore, 1)) (k : tj X Γ μ1 (pc + 1) lv st) : tj X Γ μ pc lv (.int x :: .int i :: .ref (X.1 κ j) :: st) := by
  obtain ⟨p, l, e, R, s, m, args, below, meth, c, kc, ks, Q, nL⟩ := Γ
  obtain ⟨hx, hb, hml, hown, hts, hK, hN, hR, hX, hroom, hlk⟩ := hO
  intro H locs la hP hS hl
  subst e1
  refine va_zast hx hb hK hP (x_D hX μ) hS (x_n κ j) 1 (by rw [x_wg X μ hv, ha]) rfl (inb_in hi) d (fun H1 locs1 hP1 _ hS1 => ?_)
  rw [hnar, ← ha X j, x_ws X μ hv] at hP1
  exact k H1 locs1 la hP1 hS1 hl
theorem tr_cast {X : xT} {own : String} {cc : ByteArray} {F L : Nat} {Γ : gT} (hO : Ok X own cc F L Γ) (pc : Nat) {μ : mT} {lv : List (Nat × Value)} {st : List Value} {κ j n : Nat} {i x : Int32} {μ1 : mT} (e1 : μ1 = upM μ κ j i.toNatClampNeg x) (hnar : vp_nar .char x = x) (hv : x_v κ j) (ha : x_ai κ 2 n) (hi : inb i n = true) (d : decode cc pc = .ok (.castore, 1)) (k : tj X Γ μ1 (pc + 1) lv st) : tj X Γ μ pc lv (.int x :: .int i :: .ref (X.1 κ j) :: st) := by
  obtain ⟨p, l, e, R, s, m, args, below, meth, c, kc, ks, Q, nL⟩ := Γ
  obtain ⟨hx, hb, hml, hown, hts, hK, hN, hR, hX, hroom, hlk⟩ := hO
  intro H locs la hP hS hl
  subst e1
  refine va_cast hx hb hK hP (x_D hX μ) hS (x_n κ j) 2 (by rw [x_wg X μ hv, ha]) rfl (inb_in hi) d (fun H1 locs1 hP1 _ hS1 => ?_)
  rw [hnar, ← ha X j, x_ws X μ hv] at hP1
  exact k H1 locs1 la hP1 hS1 hl
theorem tr_aald {X : xT} {own : String} {cc : ByteArray} {F L : Nat} {Γ : gT} (hO : Ok X own cc F L Γ) (pc : Nat) {μ : mT} {lv : List (Nat × Value)} {st : List Value} {κ j n j' : Nat} {i : Int32} (ej : j' = (μ κ j i.toNatClampNeg).toNatClampNeg) (hv : x_v κ j) (ha : x_aq κ n) (hi : inb i n = true) (d : decode cc pc = .ok (.aaload, 1)) (k : tj X Γ μ (pc + 1) lv (.ref (X.1 0 j') :: st)) : tj X Γ μ pc lv (.int i :: .ref (X.1 κ j) :: st) := by
  obtain ⟨p, l, e, R, s, m, args, below, meth, c, kc, ks, Q, nL⟩ := Γ
  obtain ⟨hx, hb, hml, hown, hts, hK, hN, hR, hX, hroom, hlk⟩ := hO
  intro H locs la hP hS hl
  subst ej
  exact va_aldq (f := fun k => some (X.1 0 (μ κ j k).toNatClampNeg)) hx hb hK hP (x_n κ j) 3 (by rw [x_wg X μ hv, ha]) rfl (inb_in hi) d (k H locs la hP hS hl)
theorem tr_aast {X : xT} {own : String} {cc : ByteArray} {F L : Nat} {Γ : gT} (hO : Ok X own cc F L Γ) (pc : Nat) {μ : mT} {lv : List (Nat × Value)} {st : List Value} {κ j n j' : Nat} {i : Int32} {μ1 : mT} (e1 : μ1 = upM μ κ j i.toNatClampNeg (nI j')) (hj : j' < 11) (hv : x_v κ j) (ha : x_aq κ n) (hi : inb i n = true) (d : decode cc pc = .ok (.aastore, 1)) (k : tj X Γ μ1 (pc + 1) lv st) : tj X Γ μ pc lv (.ref (X.1 0 j') :: .int i :: .ref (X.1 κ j) :: st) := by
  obtain ⟨p, l, e, R, s, m, args, below, meth, c, kc, ks, Q, nL⟩ := Γ
  obtain ⟨hx, hb, hml, hown, hts, hK, hN, hR, hX, hroom, hlk⟩ := hO
  intro H locs la hP hS hl
  subst e1
  refine va_astq (r := (RX6, TX6, 14)) hx hb hK hP (x_D hX μ) hS (x_n κ j) 3 (x_n 0 j') 6 (by rw [x_wg X μ hv, ha]) rfl (x_wg X μ (x_vy (by decide) hj)) rfl (inb_in hi) d (fun H1 locs1 hP1 _ hS1 => ?_)
  have e : va_up (fun k => some (X.1 0 (μ κ j k).toNatClampNeg)) i.toNatClampNeg (some (X.1 0 j')) = fun k => some (X.1 0 (upd (μ κ j) i.toNatClampNeg (nI j') k).toNatClampNeg) := by
    funext q
    unfold va_up upd
    by_cases hq : q = i.toNatClampNeg
    · rw [if_pos hq, if_pos hq, nI_clamp (by omega)]
    · rw [if_neg hq, if_neg hq]
  rw [e, ← ha X j, x_ws X μ hv] at hP1
  exact k H1 locs1 la hP1 hS1 hl
theorem tr_sald {X : xT} {own : String} {cc : ByteArray} {F L : Nat} {Γ : gT} (hO : Ok X own cc F L Γ) (pc : Nat) {μ : mT} {lv : List (Nat × Value)} {st : List Value} {κ : Nat} {i : Int32} (hκ : κ = 40 ∨ κ = 41) (hi : inb i 6 = true) (d : decode cc pc = .ok (.iaload, 1)) (k : tj X Γ μ (pc + 1) lv (.int (cst κ i.toNatClampNeg) :: st)) : tj X Γ μ pc lv (.int i :: .ref (X.1 κ 0) :: st) := by
  obtain ⟨p, l, e, R, s, m, args, below, meth, c, kc, ks, Q, nL⟩ := Γ
  obtain ⟨hx, hb, hml, hown, hts, hK, hN, hR, hX, hroom, hlk⟩ := hO
  intro H locs la hP hS hl
  exact va_ti hx hb (hR.2.2 κ hκ) hS (inb_in hi) rfl d (k H locs la hP hS hl)
theorem tr_gets {X : xT} {own : String} {cc : ByteArray} {F L : Nat} {Γ : gT} (hO : Ok X own cc F L Γ) (pc : Nat) {μ : mT} {lv : List (Nat × Value)} {st : List Value} {κ idx : Nat} {n : String} {host : String} (hκ : (κ = 40 ∧ n = "LEAST_VALUES") ∨ (κ = 41 ∧ n = "MOST_VALUES")) (hw : (own, idx, RX7, n, "[I", host) ∈ nF) (d : decode cc pc = .ok (.getstatic idx, 3)) (k : tj X Γ μ (pc + 3) lv (.ref (X.1 κ 0) :: st)) : tj X Γ μ pc lv st := by
  obtain ⟨p, l, e, R, s, m, args, below, meth, c, kc, ks, Q, nL⟩ := Γ
  obtain ⟨hx, hb, hml, hown, hts, hK, hN, hR, hX, hroom, hlk⟩ := hO
  intro H locs la hP hS hl
  rcases hκ with ⟨rfl, rfl⟩ | ⟨rfl, rfl⟩
  · exact va_getsN hx hb hR.1 hS hown (va_Nw.use rfl (hN.1 _ hw)) (fun x h => h) d (k H locs la hP hS hl)
  · exact va_getsN hx hb hR.2.1 hS hown (va_Nw.use rfl (hN.1 _ hw)) (fun x h => h) d (k H locs la hP hS hl)
theorem tr_min {X : xT} {own : String} {cc : ByteArray} {F L : Nat} {Γ : gT} (hO : Ok X own cc F L Γ) (pc : Nat) {μ : mT} {lv : List (Nat × Value)} {st : List Value} {x y : Int32} {idx : Nat} (hw : Cond.methodLink own idx Lib.Math.min.name ∈ big) (hs : (st.map fun v => v.category).sum ≤ 8) (hF : 1 ≤ F) (hL : 21 ≤ L) (d : decode cc pc = .ok (.invokestatic idx, 3)) (k : tj X Γ μ (pc + 3) lv (.int (if y < x then y else x) :: st)) : tj X Γ μ pc lv (.int y :: .int x :: st) := by
  obtain ⟨p, l, e, R, s, m, args, below, meth, c, kc, ks, Q, nL⟩ := Γ
  obtain ⟨hx, hb, hml, hown, hts, hK, hN, hR, hX, hroom, hlk⟩ := hO
  intro H locs la hP hS hl
  exact va_mmin hx hb (by rw [hml]; exact hl.1.symm) hown (hts _ hw) (hts _ wT_min) (hts _ wN_Math) (hts _ wC_min) (Nat.le_trans hF hroom.1) (by have := hroom.2.1; omega) hroom.2.2.1 hroom.2.2.2 d (k H locs la hP hS hl)
theorem tr_max {X : xT} {own : String} {cc : ByteArray} {F L : Nat} {Γ : gT} (hO : Ok X own cc F L Γ) (pc : Nat) {μ : mT} {lv : List (Nat × Value)} {st : List Value} {x y : Int32} {idx : Nat} (hw : Cond.methodLink own idx Lib.Math.max.name ∈ big) (hs : (st.map fun v => v.category).sum ≤ 8) (hF : 1 ≤ F) (hL : 21 ≤ L) (d : decode cc pc = .ok (.invokestatic idx, 3)) (k : tj X Γ μ (pc + 3) lv (.int (if x < y then y else x) :: st)) : tj X Γ μ pc lv (.int y :: .int x :: st) := by
  obtain ⟨p, l, e, R, s, m, args, below, meth, c, kc, ks, Q, nL⟩ := Γ
  obtain ⟨hx, hb, hml, hown, hts, hK, hN, hR, hX, hroom, hlk⟩ := hO
  intro H locs la hP hS hl
  exact va_mmax hx hb (by rw [hml]; exact hl.1.symm) hown (hts _ hw) (hts _ wT_max) (hts _ wN_Math) (hts _ wC_max) (Nat.le_trans hF hroom.1) (by have := hroom.2.1; omega) hroom.2.2.1 hroom.2.2.2 d (k H locs la hP hS hl)
theorem tr_copyi {X : xT} {own : String} {cc : ByteArray} {F L : Nat} {Γ : gT} (hO : Ok X own cc F L Γ) (pc : Nat) {μ : mT} {lv : List (Nat × Value)} {st : List Value} {κ j κ0 j0 n n0 idx : Nat} {sp dp m : Int32} {μ1 : mT} (e1 : μ1 = upR μ κ j (va_cpy (μ κ0 j0) (μ κ j) sp.toNatClampNeg dp.toNatClampNeg m.toNatClampNeg)) (hw : Cond.methodLink own idx arraycopyName ∈ big) (hv : x_v κ j) (hv0 : x_v κ0 j0) (ha : x_ai κ 0 n) (ha0 : x_ai κ0 0 n0) (h1 : ¬ sp < 0) (h2 : ¬ dp < 0) (h3 : ¬ m < 0) (h4 : sp.toNatClampNeg + m.toNatClampNeg ≤ n0) (h5 : dp.toNatClampNeg + m.toNatClampNeg ≤ n) (hs : (st.map fun v => v.category).sum ≤ 8) (hF : 1 ≤ F) (hL : 8 + (nativeFrameWords "java/lang/System" "arraycopy" 5 + 11) ≤ L) (d : decode cc pc = .ok (.invokestatic idx, 3)) (k : tj X Γ μ1 (pc + 3) lv st) : tj X Γ μ pc lv (.int m :: .int dp :: .ref (X.1 κ j) :: .int sp :: .ref (X.1 κ0 j0) :: st) := by
  obtain ⟨p, l, e, R, s, m, args, below, meth, c, kc, ks, Q, nL⟩ := Γ
  obtain ⟨hx, hb, hml, hown, hts, hK, hN, hR, hX, hroom, hlk⟩ := hO
  intro H locs la hP hS hl
  subst e1
  refine va_copyi (ty := .int) hx hb (by rw [hml]; exact hl.1.symm) hown (hts _ hw) (hts _ wNat_copy) (hts _ wT_arraycopyName) (hts _ wN_System) hK hP (x_D hX μ) hS (x_n κ0 j0) (x_n κ j) 0 0 (by rw [x_wg X μ hv0, ha0]) (by rw [x_wg X μ hv, ha]) rfl rfl rfl h1 h2 h3 h4 h5 (fun i _ => rfl) (Nat.le_trans hF hroom.1) (by have := hroom.2.1; omega) d (fun H1 locs1 hP1 _ hS1 => ?_)
  rw [← ha X j, x_ws X μ hv] at hP1
  exact k H1 locs1 la hP1 hS1 hl
theorem big_V {own C : String} {idx nl : Nat} {y : MethodName} {bytes : ByteArray} {ret : Option FieldType} (h1 : Cond.methodLink own idx y ∈ big) (h2 : Cond.instanceMethod y ∈ big) (h3 : Cond.selects C y y ∈ big) (h4 : Cond.initialized C ∈ big) (h5 : Cond.code y bytes nl ret ∈ big) : GoodIn big (wsV own idx C y (.code y bytes nl ret :: big)) := by
  intro w hw
  have hb : w ∈ big := by
    simp only [wsV, List.cons_append, List.nil_append, List.mem_cons] at hw
    rcases hw with rfl | rfl | rfl | rfl | rfl | hw
    · exact h1
    · exact h2
    · exact h3
    · exact h4
    · exact h5
    · exact hw
  exact ⟨hb, good_of_word (big_good hb)⟩
theorem big_S {own : String} {idx nl : Nat} {y : MethodName} {bytes : ByteArray} {ret : Option FieldType} (h1 : Cond.methodLink own idx y ∈ big) (h2 : Cond.static y ∈ big) (h4 : Cond.initialized own ∈ big) (h5 : Cond.code y bytes nl ret ∈ big) : GoodIn big (wsS own idx y (.code y bytes nl ret :: big)) := by
  intro w hw
  have hb : w ∈ big := by
    simp only [wsS, List.cons_append, List.nil_append, List.mem_cons] at hw
    rcases hw with rfl | rfl | rfl | rfl | hw
    · exact h1
    · exact h2
    · exact h4
    · exact h5
    · exact hw
  exact ⟨hb, good_of_word (big_good hb)⟩
theorem tr_callI {X : xT} {own : String} {cc : ByteArray} {F L : Nat} {Γ : gT} (hO : Ok X own cc F L Γ) (pc : Nat) {μ : mT} {lv : List (Nat × Value)} {st : List Value} {μ' : mT} {κ j ci N f' n' idx nl na : Nat} {C : String} {Tb : u_T} {fs As stk : List Value} {y : MethodName} {bytes : ByteArray} {r : Int32} {rt : FieldType} (hM : CMi X y bytes nl rt f' n' (.ref (X.1 κ j) :: As) μ r μ') (hs : As.reverse ++ .ref (X.1 κ j) :: st = stk) (hv : x_v κ j) (hc : vwCl[ci]? = some (C, Tb, N)) (he : x_c X κ j (μ κ j) = .inr (ci, fs)) (h1 : Cond.methodLink own idx y ∈ big) (h2 : Cond.instanceMethod y ∈ big) (h3 : Cond.selects C y y ∈ big) (h4 : Cond.initialized C ∈ big) (h5 : Cond.code y bytes nl (some rt) ∈ big) (hd : y.cls = C ∧ y.cls ≠ "java/lang/invoke/MethodHandle" ∧ y.cls ≠ "java/lang/invoke/VarHandle" ∧ (parseMethodDescriptor y.desc).map (fun d => d.parameters.length) = some na) (hna : As.length = na) (hF : f' + 1 ≤ F) (hL : 8 + (nl + 11) + n' ≤ L) (hrs : (st.map fun v => v.category).sum ≤ 8) (d : decode cc pc = .ok (.invokevirtual idx, 3)) (k : tj X Γ μ' (pc + 3) lv (.int r :: st)) : tj X Γ μ pc lv stk := by
  obtain ⟨p, l, e, R, s, m, args, below, meth, c, kc, ks, Q, nL⟩ := Γ
  obtain ⟨hx, hb, hml, hown, hts, hK, hN, hR, hX, hroom, hlk⟩ := hO
  intro H locs la hP hS hl
  refine va_calli (post := fun z (_ : Unit) => z = r) (B := fun _ t => va_P X.2.1 vwCl (x_w X μ') t.heap) (va_runV (As := As) (rest := st) ⟨hx, hb, hml, hown, hts⟩ (hM l) (cwV na hts (big_V h1 h2 h3 h4 h5) rfl rfl rfl hd ⟨Nat.le_trans hF hroom.1, Nat.le_trans hL hroom.2.1⟩) ⟨fun a U g mk q => ⟨q.1, q.2.blind g mk a⟩, va_recv hK hP hc (by rw [x_wg X μ hv, he]), fun U hU hW => ⟨rfl, x_G.to hK hN hR hS hP hU hW⟩⟩ rfl hna hl.1 hs.symm (lv_room hrs) d ⟨hroom.2.2.1, hroom.2.2.2⟩) hS (fun q _ h => h) (fun q h => h) (fun z u t H1 locs1 ht hvm hw hB hz1 hk1 hS1 => ?_)
  subst hw
  rw [ht] at hB
  exact k H1 locs1 la hB hS1 hl
theorem tr_callV {X : xT} {own : String} {cc : ByteArray} {F L : Nat} {Γ : gT} (hO : Ok X own cc F L Γ) (pc : Nat) {μ : mT} {lv : List (Nat × Value)} {st : List Value} {μ' : mT} {κ j ci N f' n' idx nl na : Nat} {C : String} {Tb : u_T} {fs As stk : List Value} {y : MethodName} {bytes : ByteArray} (hM : CMv X y bytes nl f' n' (.ref (X.1 κ j) :: As) μ μ') (hs : As.reverse ++ .ref (X.1 κ j) :: st = stk) (hv : x_v κ j) (hc : vwCl[ci]? = some (C, Tb, N)) (he : x_c X κ j (μ κ j) = .inr (ci, fs)) (h1 : Cond.methodLink own idx y ∈ big) (h2 : Cond.instanceMethod y ∈ big) (h3 : Cond.selects C y y ∈ big) (h4 : Cond.initialized C ∈ big) (h5 : Cond.code y bytes nl none ∈ big) (hd : y.cls = C ∧ y.cls ≠ "java/lang/invoke/MethodHandle" ∧ y.cls ≠ "java/lang/invoke/VarHandle" ∧ (parseMethodDescriptor y.desc).map (fun d => d.parameters.length) = some na) (hna : As.length = na) (hF : f' + 1 ≤ F) (hL : 8 + (nl + 11) + n' ≤ L) (hrs : (st.map fun v => v.category).sum ≤ 8) (d : decode cc pc = .ok (.invokevirtual idx, 3)) (k : tj X Γ μ' (pc + 3) lv st) : tj X Γ μ pc lv stk := by
  obtain ⟨p, l, e, R, s, m, args, below, meth, c, kc, ks, Q, nL⟩ := Γ
  obtain ⟨hx, hb, hml, hown, hts, hK, hN, hR, hX, hroom, hlk⟩ := hO
  intro H locs la hP hS hl
  refine va_callv (post := fun (_ : Unit) => True) (B := fun _ t => va_P X.2.1 vwCl (x_w X μ') t.heap) (va_runV (As := As) (rest := st) ⟨hx, hb, hml, hown, hts⟩ (hM l) (cwV na hts (big_V h1 h2 h3 h4 h5) rfl rfl rfl hd ⟨Nat.le_trans hF hroom.1, Nat.le_trans hL hroom.2.1⟩) ⟨fun a U g mk q => ⟨q.1, q.2.blind g mk a⟩, va_recv hK hP hc (by rw [x_wg X μ hv, he]), fun U hU hW => ⟨rfl, x_G.to hK hN hR hS hP hU hW⟩⟩ rfl hna hl.1 hs.symm (lv_room hrs) d ⟨hroom.2.2.1, hroom.2.2.2⟩) hS (fun q _ h => h) (fun q h => h) (fun u t H1 locs1 ht hvm hw hB hz1 hk1 hS1 => ?_)
  rw [ht] at hB
  exact k H1 locs1 la hB hS1 hl
theorem tr_callS {X : xT} {own : String} {cc : ByteArray} {F L : Nat} {Γ : gT} (hO : Ok X own cc F L Γ) (pc : Nat) {μ : mT} {lv : List (Nat × Value)} {st : List Value} {μ' : mT} {f' n' idx nl na : Nat} {As stk : List Value} {y : MethodName} {bytes : ByteArray} {r : Int32} {rt : FieldType} (hM : CMi X y bytes nl rt f' n' As μ r μ') (hs : As.reverse ++ st = stk) (h1 : Cond.methodLink own idx y ∈ big) (h2 : Cond.static y ∈ big) (h4 : Cond.initialized own ∈ big) (h5 : Cond.code y bytes nl (some rt) ∈ big) (hd : y.cls = own ∧ y.cls ≠ "java/lang/invoke/MethodHandle" ∧ y.cls ≠ "java/lang/invoke/VarHandle" ∧ (parseMethodDescriptor y.desc).map (fun d => d.parameters.length) = some na) (hna : As.length = na) (hF : f' + 1 ≤ F) (hL : 8 + (nl + 11) + n' ≤ L) (hrs : (st.map fun v => v.category).sum ≤ 8) (d : decode cc pc = .ok (.invokestatic idx, 3)) (k : tj X Γ μ' (pc + 3) lv (.int r :: st)) : tj X Γ μ pc lv stk := by
  obtain ⟨p, l, e, R, s, m, args, below, meth, c, kc, ks, Q, nL⟩ := Γ
  obtain ⟨hx, hb, hml, hown, hts, hK, hN, hR, hX, hroom, hlk⟩ := hO
  intro H locs la hP hS hl
  refine va_calli (post := fun z (_ : Unit) => z = r) (B := fun _ t => va_P X.2.1 vwCl (x_w X μ') t.heap) (va_runS (As := As) (rest := st) ⟨hx, hb, hml, hown, hts⟩ (hM l) (cwS na hts (big_S h1 h2 h4 h5) rfl rfl rfl hd ⟨Nat.le_trans hF hroom.1, Nat.le_trans hL hroom.2.1⟩) ⟨fun a U g mk q => ⟨q.1, q.2.blind g mk a⟩, fun U hU hW => ⟨rfl, x_G.to hK hN hR hS hP hU hW⟩⟩ rfl hna hl.1 hs.symm (lv_room hrs) d ⟨hroom.2.2.1, hroom.2.2.2⟩) hS (fun q _ h => h) (fun q h => h) (fun z u t H1 locs1 ht hvm hw hB hz1 hk1 hS1 => ?_)
  subst hw
  rw [ht] at hB
  exact k H1 locs1 la hB hS1 hl
theorem tr_iret {X : xT} {own : String} {cc : ByteArray} {F L : Nat} {Γ : gT} (hO : Ok X own cc F L Γ) (pc : Nat) {μ : mT} {lv : List (Nat × Value)} {r : Int32} {rt : FieldType} (hQ : Rti X rt r μ Γ) (hn : narrow rt (.int r) = .int r) (d : decode cc pc = .ok (.ireturn, 1)) : tj X Γ μ pc lv [.int r] := by
  obtain ⟨p, l, e, R, s, m, args, below, meth, c, kc, ks, Q, nL⟩ := Γ
  obtain ⟨hx, hb, hml, hown, hts, hK, hN, hR, hX, hroom, hlk⟩ := hO
  intro H locs la hP hS hl
  obtain ⟨hr, rfl⟩ := hQ
  exact W.zret hx hb hr hn (fun t ht hW => ⟨⟨r, (), rfl, rfl, by show va_P _ _ _ t.heap; rw [ht]; exact hP⟩, hS.F ht⟩) hS.2.2 d hlk
theorem tr_vret {X : xT} {own : String} {cc : ByteArray} {F L : Nat} {Γ : gT} (hO : Ok X own cc F L Γ) (pc : Nat) {μ : mT} {lv : List (Nat × Value)} (hQ : Rtv X μ Γ) (d : decode cc pc = .ok (.return_, 1)) : tj X Γ μ pc lv [] := by
  obtain ⟨p, l, e, R, s, m, args, below, meth, c, kc, ks, Q, nL⟩ := Γ
  obtain ⟨hx, hb, hml, hown, hts, hK, hN, hR, hX, hroom, hlk⟩ := hO
  intro H locs la hP hS hl
  obtain ⟨hr, rfl⟩ := hQ
  exact W.vret hx hb hr (fun t ht hW => ⟨⟨(), rfl, trivial, by show va_P _ _ _ t.heap; rw [ht]; exact hP⟩, hS.F ht⟩) hS.2.2 d hlk
end
