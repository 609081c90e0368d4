section
-- ===== PART A: goes FIRST, ahead of the names: the tables' words, and 'selects' of the private methods out of them =====
/-- a private method of a class that the tables say can be made, by its rows of tables_1 -/
def lw_okq (q : MethodName × Nat) : Prop := (q.1.cls ≠ "java/lang/invoke/MethodHandle" ∧ q.1.cls ≠ "java/lang/invoke/VarHandle") ∧ Cond.instantiable q.1.cls q.2 ∈ tables_1 ∧ Cond.privateMethod q.1 ∈ tables_1 ∧ Cond.instanceMethod q.1 ∈ tables_1
theorem lw_p0 : lw_okq (⟨"BooksMoved$Mark", "readBehind", "(LBooksMoved$Tape;II)V"⟩, 6) := ⟨⟨by decide +kernel, by decide +kernel⟩, List.mem_of_getElem? (i := 35) (by decide +kernel), List.mem_of_getElem? (i := 304) (by decide +kernel), List.mem_of_getElem? (i := 305) (by decide +kernel)⟩
theorem lw_p1 : lw_okq (⟨"BooksMoved$Mark", "readLetters", "(LBooksMoved$Tape;II)V"⟩, 6) := ⟨⟨by decide +kernel, by decide +kernel⟩, List.mem_of_getElem? (i := 35) (by decide +kernel), List.mem_of_getElem? (i := 315) (by decide +kernel), List.mem_of_getElem? (i := 316) (by decide +kernel)⟩
theorem lw_p2 : lw_okq (⟨"BooksMoved", "forgetWhatFollows", "()V"⟩, 9) := ⟨⟨by decide +kernel, by decide +kernel⟩, List.mem_of_getElem? (i := 11) (by decide +kernel), List.mem_of_getElem? (i := 319) (by decide +kernel), List.mem_of_getElem? (i := 320) (by decide +kernel)⟩
theorem lw_p3 : lw_okq (⟨"BooksMoved$Books", "putInOrder", "(II)V"⟩, 8) := ⟨⟨by decide +kernel, by decide +kernel⟩, List.mem_of_getElem? (i := 62) (by decide +kernel), List.mem_of_getElem? (i := 333) (by decide +kernel), List.mem_of_getElem? (i := 334) (by decide +kernel)⟩
theorem lw_p4 : lw_okq (⟨"BooksMoved$Books", "quarrelsWithEarlier", "(I)I"⟩, 8) := ⟨⟨by decide +kernel, by decide +kernel⟩, List.mem_of_getElem? (i := 62) (by decide +kernel), List.mem_of_getElem? (i := 341) (by decide +kernel), List.mem_of_getElem? (i := 342) (by decide +kernel)⟩
theorem lw_p5 : lw_okq (⟨"BooksMoved", "makePlans", "()V"⟩, 9) := ⟨⟨by decide +kernel, by decide +kernel⟩, List.mem_of_getElem? (i := 11) (by decide +kernel), List.mem_of_getElem? (i := 390) (by decide +kernel), List.mem_of_getElem? (i := 391) (by decide +kernel)⟩
theorem lw_p6 : lw_okq (⟨"BooksMoved$Shelves", "clear", "()V"⟩, 10) := ⟨⟨by decide +kernel, by decide +kernel⟩, List.mem_of_getElem? (i := 110) (by decide +kernel), List.mem_of_getElem? (i := 398) (by decide +kernel), List.mem_of_getElem? (i := 399) (by decide +kernel)⟩
theorem lw_p7 : lw_okq (⟨"BooksMoved$Shelves", "put", "(III)V"⟩, 10) := ⟨⟨by decide +kernel, by decide +kernel⟩, List.mem_of_getElem? (i := 110) (by decide +kernel), List.mem_of_getElem? (i := 406) (by decide +kernel), List.mem_of_getElem? (i := 407) (by decide +kernel)⟩
theorem lw_p8 : lw_okq (⟨"BooksMoved$Crates", "setMinutes", "()V"⟩, 11) := ⟨⟨by decide +kernel, by decide +kernel⟩, List.mem_of_getElem? (i := 156) (by decide +kernel), List.mem_of_getElem? (i := 421) (by decide +kernel), List.mem_of_getElem? (i := 422) (by decide +kernel)⟩
theorem lw_p9 : lw_okq (⟨"BooksMoved$Crates", "carryFrom", "(II)I"⟩, 11) := ⟨⟨by decide +kernel, by decide +kernel⟩, List.mem_of_getElem? (i := 156) (by decide +kernel), List.mem_of_getElem? (i := 425) (by decide +kernel), List.mem_of_getElem? (i := 426) (by decide +kernel)⟩
theorem lw_p10 : lw_okq (⟨"BooksMoved", "lookThrough", "()V"⟩, 9) := ⟨⟨by decide +kernel, by decide +kernel⟩, List.mem_of_getElem? (i := 11) (by decide +kernel), List.mem_of_getElem? (i := 492) (by decide +kernel), List.mem_of_getElem? (i := 493) (by decide +kernel)⟩
theorem lw_p11 : lw_okq (⟨"BooksMoved$Row", "mostBehind", "(ILBooksMoved$Books;I)I"⟩, 6) := ⟨⟨by decide +kernel, by decide +kernel⟩, List.mem_of_getElem? (i := 207) (by decide +kernel), List.mem_of_getElem? (i := 500) (by decide +kernel), List.mem_of_getElem? (i := 501) (by decide +kernel)⟩
theorem lw_p12 : lw_okq (⟨"BooksMovedModel", "four", "(I)V"⟩, 40) := ⟨⟨by decide +kernel, by decide +kernel⟩, List.mem_of_getElem? (i := 523) (by decide +kernel), List.mem_of_getElem? (i := 654) (by decide +kernel), List.mem_of_getElem? (i := 655) (by decide +kernel)⟩
theorem lw_p13 : lw_okq (⟨"BooksMovedModel", "isMark", "(I)Z"⟩, 40) := ⟨⟨by decide +kernel, by decide +kernel⟩, List.mem_of_getElem? (i := 523) (by decide +kernel), List.mem_of_getElem? (i := 669) (by decide +kernel), List.mem_of_getElem? (i := 670) (by decide +kernel)⟩
theorem lw_p14 : lw_okq (⟨"BooksMovedModel", "digitsHere", "()I"⟩, 40) := ⟨⟨by decide +kernel, by decide +kernel⟩, List.mem_of_getElem? (i := 523) (by decide +kernel), List.mem_of_getElem? (i := 673) (by decide +kernel), List.mem_of_getElem? (i := 674) (by decide +kernel)⟩
theorem lw_p15 : lw_okq (⟨"BooksMovedModel", "see", "(I)I"⟩, 40) := ⟨⟨by decide +kernel, by decide +kernel⟩, List.mem_of_getElem? (i := 523) (by decide +kernel), List.mem_of_getElem? (i := 677) (by decide +kernel), List.mem_of_getElem? (i := 678) (by decide +kernel)⟩
def lw_privs_1 : List (MethodName × Nat) := [(⟨"BooksMoved$Mark", "readBehind", "(LBooksMoved$Tape;II)V"⟩, 6), (⟨"BooksMoved$Mark", "readLetters", "(LBooksMoved$Tape;II)V"⟩, 6), (⟨"BooksMoved", "forgetWhatFollows", "()V"⟩, 9), (⟨"BooksMoved$Books", "putInOrder", "(II)V"⟩, 8), (⟨"BooksMoved$Books", "quarrelsWithEarlier", "(I)I"⟩, 8), (⟨"BooksMoved", "makePlans", "()V"⟩, 9), (⟨"BooksMoved$Shelves", "clear", "()V"⟩, 10), (⟨"BooksMoved$Shelves", "put", "(III)V"⟩, 10), (⟨"BooksMoved$Crates", "setMinutes", "()V"⟩, 11), (⟨"BooksMoved$Crates", "carryFrom", "(II)I"⟩, 11), (⟨"BooksMoved", "lookThrough", "()V"⟩, 9), (⟨"BooksMoved$Row", "mostBehind", "(ILBooksMoved$Books;I)I"⟩, 6), (⟨"BooksMovedModel", "four", "(I)V"⟩, 40), (⟨"BooksMovedModel", "isMark", "(I)Z"⟩, 40), (⟨"BooksMovedModel", "digitsHere", "()I"⟩, 40), (⟨"BooksMovedModel", "see", "(I)I"⟩, 40)]
theorem lw_r1 : ∀ q ∈ lw_privs_1, lw_okq q := List.forall_mem_cons.mpr ⟨lw_p0, List.forall_mem_cons.mpr ⟨lw_p1, List.forall_mem_cons.mpr ⟨lw_p2, List.forall_mem_cons.mpr ⟨lw_p3, List.forall_mem_cons.mpr ⟨lw_p4, List.forall_mem_cons.mpr ⟨lw_p5, List.forall_mem_cons.mpr ⟨lw_p6, List.forall_mem_cons.mpr ⟨lw_p7, List.forall_mem_cons.mpr ⟨lw_p8, List.forall_mem_cons.mpr ⟨lw_p9, List.forall_mem_cons.mpr ⟨lw_p10, List.forall_mem_cons.mpr ⟨lw_p11, List.forall_mem_cons.mpr ⟨lw_p12, List.forall_mem_cons.mpr ⟨lw_p13, List.forall_mem_cons.mpr ⟨lw_p14, List.forall_mem_cons.mpr ⟨lw_p15, fun _ h => absurd h List.not_mem_nil⟩⟩⟩⟩⟩⟩⟩⟩⟩⟩⟩⟩⟩⟩⟩⟩
theorem lw_p16 : lw_okq (⟨"BooksMovedModel", "isBook", "(I)Z"⟩, 40) := ⟨⟨by decide +kernel, by decide +kernel⟩, List.mem_of_getElem? (i := 523) (by decide +kernel), List.mem_of_getElem? (i := 693) (by decide +kernel), List.mem_of_getElem? (i := 694) (by decide +kernel)⟩
theorem lw_p17 : lw_okq (⟨"BooksMovedModel", "against", "(III)I"⟩, 40) := ⟨⟨by decide +kernel, by decide +kernel⟩, List.mem_of_getElem? (i := 523) (by decide +kernel), List.mem_of_getElem? (i := 697) (by decide +kernel), List.mem_of_getElem? (i := 698) (by decide +kernel)⟩
theorem lw_p18 : lw_okq (⟨"BooksMovedModel", "keyOf", "(II)I"⟩, 40) := ⟨⟨by decide +kernel, by decide +kernel⟩, List.mem_of_getElem? (i := 523) (by decide +kernel), List.mem_of_getElem? (i := 704) (by decide +kernel), List.mem_of_getElem? (i := 705) (by decide +kernel)⟩
theorem lw_p19 : lw_okq (⟨"BooksMovedModel", "sort", "(I)V"⟩, 40) := ⟨⟨by decide +kernel, by decide +kernel⟩, List.mem_of_getElem? (i := 523) (by decide +kernel), List.mem_of_getElem? (i := 712) (by decide +kernel), List.mem_of_getElem? (i := 713) (by decide +kernel)⟩
theorem lw_p20 : lw_okq (⟨"BooksMovedModel", "lay", "()V"⟩, 40) := ⟨⟨by decide +kernel, by decide +kernel⟩, List.mem_of_getElem? (i := 523) (by decide +kernel), List.mem_of_getElem? (i := 732) (by decide +kernel), List.mem_of_getElem? (i := 733) (by decide +kernel)⟩
theorem lw_p21 : lw_okq (⟨"BooksMovedModel", "pack", "()V"⟩, 40) := ⟨⟨by decide +kernel, by decide +kernel⟩, List.mem_of_getElem? (i := 523) (by decide +kernel), List.mem_of_getElem? (i := 744) (by decide +kernel), List.mem_of_getElem? (i := 745) (by decide +kernel)⟩
theorem lw_p22 : lw_okq (⟨"BooksMovedModel", "meet", "()V"⟩, 40) := ⟨⟨by decide +kernel, by decide +kernel⟩, List.mem_of_getElem? (i := 523) (by decide +kernel), List.mem_of_getElem? (i := 748) (by decide +kernel), List.mem_of_getElem? (i := 749) (by decide +kernel)⟩
theorem lw_p23 : lw_okq (⟨"BooksMovedModel", "takeOut", "()I"⟩, 40) := ⟨⟨by decide +kernel, by decide +kernel⟩, List.mem_of_getElem? (i := 523) (by decide +kernel), List.mem_of_getElem? (i := 785) (by decide +kernel), List.mem_of_getElem? (i := 786) (by decide +kernel)⟩
def lw_privs_2 : List (MethodName × Nat) := [(⟨"BooksMovedModel", "isBook", "(I)Z"⟩, 40), (⟨"BooksMovedModel", "against", "(III)I"⟩, 40), (⟨"BooksMovedModel", "keyOf", "(II)I"⟩, 40), (⟨"BooksMovedModel", "sort", "(I)V"⟩, 40), (⟨"BooksMovedModel", "lay", "()V"⟩, 40), (⟨"BooksMovedModel", "pack", "()V"⟩, 40), (⟨"BooksMovedModel", "meet", "()V"⟩, 40), (⟨"BooksMovedModel", "takeOut", "()I"⟩, 40)]
theorem lw_r2 : ∀ q ∈ lw_privs_2, lw_okq q := List.forall_mem_cons.mpr ⟨lw_p16, List.forall_mem_cons.mpr ⟨lw_p17, List.forall_mem_cons.mpr ⟨lw_p18, List.forall_mem_cons.mpr ⟨lw_p19, List.forall_mem_cons.mpr ⟨lw_p20, List.forall_mem_cons.mpr ⟨lw_p21, List.forall_mem_cons.mpr ⟨lw_p22, List.forall_mem_cons.mpr ⟨lw_p23, fun _ h => absurd h List.not_mem_nil⟩⟩⟩⟩⟩⟩⟩⟩
def lw_privs : List (MethodName × Nat) := lw_privs_1 ++ (lw_privs_2)
def lw_tbl : List Cond := k2_sels lw_privs ++ tables_1
theorem lw_privs_ok : ∀ q ∈ lw_privs, lw_okq q := by
  show ∀ q ∈ lw_privs_1 ++ (lw_privs_2), lw_okq q
  exact List.forall_mem_append.mpr ⟨lw_r1, lw_r2⟩
/-! ===== BEGIN printed: names, fields, word lists, decode rows ===== -/
def RX0 : String := "BooksMoved$Books"
def TX0 : u_T := fun k => match k with
  | 0 => ("BooksMoved$Books", "key", "[[J", true)
  | 1 => ("BooksMoved$Books", "order", "[[I", true)
  | 2 => ("BooksMoved$Books", "house", "[I", true)
  | 3 => ("BooksMoved$Books", "thick", "[I", true)
  | 4 => ("BooksMoved$Books", "tall", "[I", true)
  | 5 => ("BooksMoved$Books", "thousand", "[I", true)
  | 6 => ("BooksMoved$Books", "count", "I", false)
  | _ => ("BooksMoved$Books", "quarrelling", "I", false)
def tyX0 : Nat → FieldType := fun k => match k with
  | 0 => .array (.array .long)
  | 1 => .array (.array .int)
  | 2 => .array .int
  | 3 => .array .int
  | 4 => .array .int
  | 5 => .array .int
  | 6 => .int
  | _ => .int
abbrev wsX00 : List Cond := u_ws RX0 TX0 8
theorem nmX0 : ∀ a, a < 8 → ∀ b, b < 8 → a ≠ b → (TX0 a).2.1 ≠ (TX0 b).2.1 := by decide +kernel
theorem tyX0_ok : ∀ k, k < 8 → parseFieldDescriptor (TX0 k).2.2.1 = some (tyX0 k) := by decide +kernel
abbrev cX0_init : ByteArray := prog_2_method_1_code
def yX0_init : MethodName := ⟨RX0, "<init>", "()V"⟩
abbrev cX0_has : ByteArray := prog_2_method_2_code
def yX0_has : MethodName := ⟨RX0, "has", "(I)Z"⟩
abbrev cX0_add : ByteArray := prog_2_method_3_code
def yX0_add : MethodName := ⟨RX0, "add", "(LBooksMoved$Mark;III)I"⟩
abbrev cX0_sign : ByteArray := prog_2_method_4_code
def yX0_sign : MethodName := ⟨RX0, "sign", "(III)I"⟩
abbrev cX0_putInOrder : ByteArray := prog_2_method_5_code
def yX0_putInOrder : MethodName := ⟨RX0, "putInOrder", "(II)V"⟩
abbrev cX0_quarrelsWithEarlier : ByteArray := prog_2_method_6_code
def yX0_quarrelsWithEarlier : MethodName := ⟨RX0, "quarrelsWithEarlier", "(I)I"⟩
def RX1 : String := "BooksMoved$Crates"
def TX1 : u_T := fun k => match k with
  | 0 => ("BooksMoved$Crates", "wayOfHouse", "[I", true)
  | 1 => ("BooksMoved$Crates", "firstBook", "[I", true)
  | 2 => ("BooksMoved$Crates", "booksIn", "[I", true)
  | 3 => ("BooksMoved$Crates", "house", "[I", true)
  | 4 => ("BooksMoved$Crates", "begins", "[I", true)
  | 5 => ("BooksMoved$Crates", "ends", "[I", true)
  | 6 => ("BooksMoved$Crates", "crateOfBook", "[I", true)
  | 7 => ("BooksMoved$Crates", "hold", "I", false)
  | 8 => ("BooksMoved$Crates", "count", "I", false)
  | 9 => ("BooksMoved$Crates", "ofFirstTeam", "I", false)
  | _ => ("BooksMoved$Crates", "bothEnded", "I", false)
def tyX1 : Nat → FieldType := fun k => match k with
  | 0 => .array .int
  | 1 => .array .int
  | 2 => .array .int
  | 3 => .array .int
  | 4 => .array .int
  | 5 => .array .int
  | 6 => .array .int
  | 7 => .int
  | 8 => .int
  | 9 => .int
  | _ => .int
abbrev wsX10 : List Cond := u_ws RX1 TX1 11
theorem nmX1 : ∀ a, a < 11 → ∀ b, b < 11 → a ≠ b → (TX1 a).2.1 ≠ (TX1 b).2.1 := by decide +kernel
theorem tyX1_ok : ∀ k, k < 11 → parseFieldDescriptor (TX1 k).2.2.1 = some (tyX1 k) := by decide +kernel
abbrev cX1_init : ByteArray := prog_3_method_1_code
def yX1_init : MethodName := ⟨RX1, "<init>", "()V"⟩
abbrev cX1_pack : ByteArray := prog_3_method_2_code
def yX1_pack : MethodName := ⟨RX1, "pack", "(LBooksMoved$Books;I)V"⟩
abbrev cX1_meet : ByteArray := prog_3_method_3_code
def yX1_meet : MethodName := ⟨RX1, "meet", "()V"⟩
abbrev cX1_stageOf : ByteArray := prog_3_method_4_code
def yX1_stageOf : MethodName := ⟨RX1, "stageOf", "(II)I"⟩
abbrev cX1_readerHas : ByteArray := prog_3_method_5_code
def yX1_readerHas : MethodName := ⟨RX1, "readerHas", "(II)I"⟩
abbrev cX1_setMinutes : ByteArray := prog_3_method_6_code
def yX1_setMinutes : MethodName := ⟨RX1, "setMinutes", "()V"⟩
abbrev cX1_carryFrom : ByteArray := prog_3_method_7_code
def yX1_carryFrom : MethodName := ⟨RX1, "carryFrom", "(II)I"⟩
def RX2 : String := "BooksMoved$Mark"
def TX2 : u_T := fun k => match k with
  | 0 => ("BooksMoved$Mark", "wrongAt", "I", false)
  | 1 => ("BooksMoved$Mark", "number", "I", false)
  | 2 => ("BooksMoved$Mark", "behind", "I", false)
  | 3 => ("BooksMoved$Mark", "behindDigits", "I", false)
  | 4 => ("BooksMoved$Mark", "behindFromLeft", "I", false)
  | _ => ("BooksMoved$Mark", "letters", "I", false)
def tyX2 : Nat → FieldType := fun k => match k with
  | 0 => .int
  | 1 => .int
  | 2 => .int
  | 3 => .int
  | 4 => .int
  | _ => .int
abbrev wsX20 : List Cond := u_ws RX2 TX2 6
theorem nmX2 : ∀ a, a < 6 → ∀ b, b < 6 → a ≠ b → (TX2 a).2.1 ≠ (TX2 b).2.1 := by decide +kernel
theorem tyX2_ok : ∀ k, k < 6 → parseFieldDescriptor (TX2 k).2.2.1 = some (tyX2 k) := by decide +kernel
abbrev cX2_init : ByteArray := prog_4_method_1_code
def yX2_init : MethodName := ⟨RX2, "<init>", "()V"⟩
abbrev cX2_read : ByteArray := prog_4_method_2_code
def yX2_read : MethodName := ⟨RX2, "read", "(LBooksMoved$Tape;)V"⟩
abbrev cX2_keyBy : ByteArray := prog_4_method_3_code
def yX2_keyBy : MethodName := ⟨RX2, "keyBy", "(I)J"⟩
abbrev cX2_readBehind : ByteArray := prog_4_method_4_code
def yX2_readBehind : MethodName := ⟨RX2, "readBehind", "(LBooksMoved$Tape;II)V"⟩
abbrev cX2_readLetters : ByteArray := prog_4_method_5_code
def yX2_readLetters : MethodName := ⟨RX2, "readLetters", "(LBooksMoved$Tape;II)V"⟩
abbrev cX2_pastDigits : ByteArray := prog_4_method_6_code
def yX2_pastDigits : MethodName := ⟨RX2, "pastDigits", "(LBooksMoved$Tape;I)I"⟩
abbrev cX2_pastLetters : ByteArray := prog_4_method_7_code
def yX2_pastLetters : MethodName := ⟨RX2, "pastLetters", "(LBooksMoved$Tape;I)I"⟩
abbrev cX2_valueOf : ByteArray := prog_4_method_8_code
def yX2_valueOf : MethodName := ⟨RX2, "valueOf", "(LBooksMoved$Tape;II)I"⟩
def RX3 : String := "BooksMoved$Row"
def TX3 : u_T := fun k => match k with
  | 0 => ("BooksMoved$Row", "book", "[I", true)
  | 1 => ("BooksMoved$Row", "out", "[Z", true)
  | 2 => ("BooksMoved$Row", "mostFrom", "[I", true)
  | 3 => ("BooksMoved$Row", "places", "[I", true)
  | 4 => ("BooksMoved$Row", "count", "I", false)
  | _ => ("BooksMoved$Row", "outs", "I", false)
def tyX3 : Nat → FieldType := fun k => match k with
  | 0 => .array .int
  | 1 => .array .boolean
  | 2 => .array .int
  | 3 => .array .int
  | 4 => .int
  | _ => .int
abbrev wsX30 : List Cond := u_ws RX3 TX3 6
theorem nmX3 : ∀ a, a < 6 → ∀ b, b < 6 → a ≠ b → (TX3 a).2.1 ≠ (TX3 b).2.1 := by decide +kernel
theorem tyX3_ok : ∀ k, k < 6 → parseFieldDescriptor (TX3 k).2.2.1 = some (tyX3 k) := by decide +kernel
abbrev cX3_init : ByteArray := prog_5_method_1_code
def yX3_init : MethodName := ⟨RX3, "<init>", "()V"⟩
abbrev cX3_has : ByteArray := prog_5_method_2_code
def yX3_has : MethodName := ⟨RX3, "has", "(I)Z"⟩
abbrev cX3_fill : ByteArray := prog_5_method_3_code
def yX3_fill : MethodName := ⟨RX3, "fill", "([II[I)V"⟩
abbrev cX3_carry : ByteArray := prog_5_method_4_code
def yX3_carry : MethodName := ⟨RX3, "carry", "(II)V"⟩
abbrev cX3_findOuts : ByteArray := prog_5_method_5_code
def yX3_findOuts : MethodName := ⟨RX3, "findOuts", "(LBooksMoved$Books;I)V"⟩
abbrev cX3_mostBehind : ByteArray := prog_5_method_6_code
def yX3_mostBehind : MethodName := ⟨RX3, "mostBehind", "(ILBooksMoved$Books;I)I"⟩
abbrev cX3_draw : ByteArray := prog_5_method_7_code
def yX3_draw : MethodName := ⟨RX3, "draw", "(IILBooksMoved$Books;I)I"⟩
def RX4 : String := "BooksMoved$Shelves"
def TX4 : u_T := fun k => match k with
  | 0 => ("BooksMoved$Shelves", "length", "[I", true)
  | 1 => ("BooksMoved$Shelves", "growth", "[I", true)
  | 2 => ("BooksMoved$Shelves", "booksOn", "[I", true)
  | 3 => ("BooksMoved$Shelves", "needed", "[I", true)
  | 4 => ("BooksMoved$Shelves", "shelfOfBook", "[I", true)
  | 5 => ("BooksMoved$Shelves", "placeOfBook", "[I", true)
  | 6 => ("BooksMoved$Shelves", "count", "I", false)
  | 7 => ("BooksMoved$Shelves", "limit", "I", false)
  | 8 => ("BooksMoved$Shelves", "outsize", "I", false)
  | _ => ("BooksMoved$Shelves", "notLaid", "I", false)
def tyX4 : Nat → FieldType := fun k => match k with
  | 0 => .array .int
  | 1 => .array .int
  | 2 => .array .int
  | 3 => .array .int
  | 4 => .array .int
  | 5 => .array .int
  | 6 => .int
  | 7 => .int
  | 8 => .int
  | _ => .int
abbrev wsX40 : List Cond := u_ws RX4 TX4 10
theorem nmX4 : ∀ a, a < 10 → ∀ b, b < 10 → a ≠ b → (TX4 a).2.1 ≠ (TX4 b).2.1 := by decide +kernel
theorem tyX4_ok : ∀ k, k < 10 → parseFieldDescriptor (TX4 k).2.2.1 = some (tyX4 k) := by decide +kernel
abbrev cX4_init : ByteArray := prog_6_method_1_code
def yX4_init : MethodName := ⟨RX4, "<init>", "()V"⟩
abbrev cX4_add : ByteArray := prog_6_method_2_code
def yX4_add : MethodName := ⟨RX4, "add", "(I)I"⟩
abbrev cX4_room : ByteArray := prog_6_method_3_code
def yX4_room : MethodName := ⟨RX4, "room", "(I)I"⟩
abbrev cX4_lay : ByteArray := prog_6_method_4_code
def yX4_lay : MethodName := ⟨RX4, "lay", "(LBooksMoved$Books;I)V"⟩
abbrev cX4_clear : ByteArray := prog_6_method_5_code
def yX4_clear : MethodName := ⟨RX4, "clear", "()V"⟩
abbrev cX4_put : ByteArray := prog_6_method_6_code
def yX4_put : MethodName := ⟨RX4, "put", "(III)V"⟩
def RX5 : String := "BooksMoved$Tape"
def TX5 : u_T := fun k => match k with
  | 0 => ("BooksMoved$Tape", "bytes", "[I", true)
  | _ => ("BooksMoved$Tape", "count", "I", false)
def tyX5 : Nat → FieldType := fun k => match k with
  | 0 => .array .int
  | _ => .int
abbrev wsX50 : List Cond := u_ws RX5 TX5 2
theorem nmX5 : ∀ a, a < 2 → ∀ b, b < 2 → a ≠ b → (TX5 a).2.1 ≠ (TX5 b).2.1 := by decide +kernel
theorem tyX5_ok : ∀ k, k < 2 → parseFieldDescriptor (TX5 k).2.2.1 = some (tyX5 k) := by decide +kernel
abbrev cX5_init : ByteArray := prog_7_method_1_code
def yX5_init : MethodName := ⟨RX5, "<init>", "()V"⟩
abbrev cX5_append : ByteArray := prog_7_method_2_code
def yX5_append : MethodName := ⟨RX5, "append", "(I)V"⟩
abbrev cX5_byteAt : ByteArray := prog_7_method_3_code
def yX5_byteAt : MethodName := ⟨RX5, "byteAt", "(I)I"⟩
abbrev cX5_digitAt : ByteArray := prog_7_method_4_code
def yX5_digitAt : MethodName := ⟨RX5, "digitAt", "(I)Z"⟩
abbrev cX5_letterAt : ByteArray := prog_7_method_5_code
def yX5_letterAt : MethodName := ⟨RX5, "letterAt", "(I)Z"⟩
def RX6 : String := "BooksMoved"
def TX6 : u_T := fun k => match k with
  | 0 => ("BooksMoved", "tape", "LBooksMoved$Tape;", true)
  | 1 => ("BooksMoved", "mark", "LBooksMoved$Mark;", true)
  | 2 => ("BooksMoved", "books", "LBooksMoved$Books;", true)
  | 3 => ("BooksMoved", "shelves", "LBooksMoved$Shelves;", true)
  | 4 => ("BooksMoved", "crates", "LBooksMoved$Crates;", true)
  | 5 => ("BooksMoved", "standing", "LBooksMoved$Row;", true)
  | 6 => ("BooksMoved", "theRule", "I", false)
  | 7 => ("BooksMoved", "plansHold", "Z", false)
  | _ => ("BooksMoved", "outsHold", "Z", false)
def tyX6 : Nat → FieldType := fun k => match k with
  | 0 => .object "BooksMoved$Tape"
  | 1 => .object "BooksMoved$Mark"
  | 2 => .object "BooksMoved$Books"
  | 3 => .object "BooksMoved$Shelves"
  | 4 => .object "BooksMoved$Crates"
  | 5 => .object "BooksMoved$Row"
  | 6 => .int
  | 7 => .boolean
  | _ => .boolean
abbrev wsX60 : List Cond := u_ws RX6 TX6 9
theorem nmX6 : ∀ a, a < 9 → ∀ b, b < 9 → a ≠ b → (TX6 a).2.1 ≠ (TX6 b).2.1 := by decide +kernel
theorem tyX6_ok : ∀ k, k < 9 → parseFieldDescriptor (TX6 k).2.2.1 = some (tyX6 k) := by decide +kernel
abbrev cX6_init : ByteArray := prog_1_method_1_code
def yX6_init : MethodName := ⟨RX6, "<init>", "()V"⟩
abbrev cX6_feed : ByteArray := prog_1_method_2_code
def yX6_feed : MethodName := ⟨RX6, "feed", "(IIIII)I"⟩
abbrev cX6_end : ByteArray := prog_1_method_3_code
def yX6_end : MethodName := ⟨RX6, "end", "(I)I"⟩
abbrev cX6_book : ByteArray := prog_1_method_4_code
def yX6_book : MethodName := ⟨RX6, "book", "(III)I"⟩
abbrev cX6_wrong : ByteArray := prog_1_method_5_code
def yX6_wrong : MethodName := ⟨RX6, "wrong", "()I"⟩
abbrev cX6_rule : ByteArray := prog_1_method_6_code
def yX6_rule : MethodName := ⟨RX6, "rule", "(I)Z"⟩
abbrev cX6_compare : ByteArray := prog_1_method_7_code
def yX6_compare : MethodName := ⟨RX6, "compare", "(III)I"⟩
abbrev cX6_ordered : ByteArray := prog_1_method_8_code
def yX6_ordered : MethodName := ⟨RX6, "ordered", "(II)I"⟩
abbrev cX6_quarrels : ByteArray := prog_1_method_9_code
def yX6_quarrels : MethodName := ⟨RX6, "quarrels", "()I"⟩
abbrev cX6_shelf : ByteArray := prog_1_method_10_code
def yX6_shelf : MethodName := ⟨RX6, "shelf", "(I)I"⟩
abbrev cX6_sizes : ByteArray := prog_1_method_11_code
def yX6_sizes : MethodName := ⟨RX6, "sizes", "(II)Z"⟩
abbrev cX6_laid : ByteArray := prog_1_method_12_code
def yX6_laid : MethodName := ⟨RX6, "laid", "(II)I"⟩
abbrev cX6_shelfOf : ByteArray := prog_1_method_13_code
def yX6_shelfOf : MethodName := ⟨RX6, "shelfOf", "(II)I"⟩
abbrev cX6_counts : ByteArray := prog_1_method_14_code
def yX6_counts : MethodName := ⟨RX6, "counts", "(I)I"⟩
abbrev cX6_way : ByteArray := prog_1_method_15_code
def yX6_way : MethodName := ⟨RX6, "way", "(II)Z"⟩
abbrev cX6_crate : ByteArray := prog_1_method_16_code
def yX6_crate : MethodName := ⟨RX6, "crate", "(II)I"⟩
abbrev cX6_meeting : ByteArray := prog_1_method_17_code
def yX6_meeting : MethodName := ⟨RX6, "meeting", "(I)I"⟩
abbrev cX6_where : ByteArray := prog_1_method_18_code
def yX6_where : MethodName := ⟨RX6, "where", "(III)I"⟩
abbrev cX6_row : ByteArray := prog_1_method_19_code
def yX6_row : MethodName := ⟨RX6, "row", "()I"⟩
abbrev cX6_at : ByteArray := prog_1_method_20_code
def yX6_at : MethodName := ⟨RX6, "at", "(I)I"⟩
abbrev cX6_misplace : ByteArray := prog_1_method_21_code
def yX6_misplace : MethodName := ⟨RX6, "misplace", "(II)Z"⟩
abbrev cX6_takenOut : ByteArray := prog_1_method_22_code
def yX6_takenOut : MethodName := ⟨RX6, "takenOut", "()I"⟩
abbrev cX6_isOut : ByteArray := prog_1_method_23_code
def yX6_isOut : MethodName := ⟨RX6, "isOut", "(I)I"⟩
abbrev cX6_drawn : ByteArray := prog_1_method_24_code
def yX6_drawn : MethodName := ⟨RX6, "drawn", "(III)I"⟩
abbrev cX6_about : ByteArray := prog_1_method_25_code
def yX6_about : MethodName := ⟨RX6, "about", "(I)I"⟩
abbrev cX6_within : ByteArray := prog_1_method_26_code
def yX6_within : MethodName := ⟨RX6, "within", "(III)Z"⟩
abbrev cX6_isRule : ByteArray := prog_1_method_27_code
def yX6_isRule : MethodName := ⟨RX6, "isRule", "(I)Z"⟩
abbrev cX6_forgetWhatFollows : ByteArray := prog_1_method_28_code
def yX6_forgetWhatFollows : MethodName := ⟨RX6, "forgetWhatFollows", "()V"⟩
abbrev cX6_makePlans : ByteArray := prog_1_method_29_code
def yX6_makePlans : MethodName := ⟨RX6, "makePlans", "()V"⟩
abbrev cX6_lookThrough : ByteArray := prog_1_method_30_code
def yX6_lookThrough : MethodName := ⟨RX6, "lookThrough", "()V"⟩
def RX7 : String := "BooksMovedModel"
def TX7 : u_T := fun k => match k with
  | 0 => ("BooksMovedModel", "books", "I", false)
  | 1 => ("BooksMovedModel", "rule", "I", false)
  | 2 => ("BooksMovedModel", "limit", "I", false)
  | 3 => ("BooksMovedModel", "holds", "I", false)
  | 4 => ("BooksMovedModel", "number", "[I", true)
  | 5 => ("BooksMovedModel", "behind", "[I", true)
  | 6 => ("BooksMovedModel", "digits", "[I", true)
  | 7 => ("BooksMovedModel", "letters", "[I", true)
  | 8 => ("BooksMovedModel", "house", "[I", true)
  | 9 => ("BooksMovedModel", "thick", "[I", true)
  | 10 => ("BooksMovedModel", "tall", "[I", true)
  | 11 => ("BooksMovedModel", "shelves", "I", false)
  | 12 => ("BooksMovedModel", "longs", "[I", true)
  | 13 => ("BooksMovedModel", "growth", "[I", true)
  | 14 => ("BooksMovedModel", "way", "[I", true)
  | 15 => ("BooksMovedModel", "tape", "[I", true)
  | 16 => ("BooksMovedModel", "taped", "I", false)
  | 17 => ("BooksMovedModel", "wrongAt", "I", false)
  | 18 => ("BooksMovedModel", "at", "I", false)
  | 19 => ("BooksMovedModel", "order", "[I", true)
  | 20 => ("BooksMovedModel", "shelfOf", "[I", true)
  | 21 => ("BooksMovedModel", "placeOn", "[I", true)
  | 22 => ("BooksMovedModel", "has", "[I", true)
  | 23 => ("BooksMovedModel", "needs", "[I", true)
  | 24 => ("BooksMovedModel", "outsize", "I", false)
  | 25 => ("BooksMovedModel", "notLaid", "I", false)
  | 26 => ("BooksMovedModel", "crates", "I", false)
  | 27 => ("BooksMovedModel", "meets", "I", false)
  | 28 => ("BooksMovedModel", "meetsAt", "I", false)
  | 29 => ("BooksMovedModel", "firstOf", "[I", true)
  | 30 => ("BooksMovedModel", "many", "[I", true)
  | 31 => ("BooksMovedModel", "crateHouse", "[I", true)
  | 32 => ("BooksMovedModel", "begins", "[I", true)
  | 33 => ("BooksMovedModel", "ends", "[I", true)
  | 34 => ("BooksMovedModel", "crateOf", "[I", true)
  | 35 => ("BooksMovedModel", "rowLong", "I", false)
  | 36 => ("BooksMovedModel", "row", "[I", true)
  | 37 => ("BooksMovedModel", "stays", "[I", true)
  | 38 => ("BooksMovedModel", "isOut", "[Z", true)
  | _ => ("BooksMovedModel", "lot", "[I", true)
def tyX7 : Nat → FieldType := fun k => match k with
  | 0 => .int
  | 1 => .int
  | 2 => .int
  | 3 => .int
  | 4 => .array .int
  | 5 => .array .int
  | 6 => .array .int
  | 7 => .array .int
  | 8 => .array .int
  | 9 => .array .int
  | 10 => .array .int
  | 11 => .int
  | 12 => .array .int
  | 13 => .array .int
  | 14 => .array .int
  | 15 => .array .int
  | 16 => .int
  | 17 => .int
  | 18 => .int
  | 19 => .array .int
  | 20 => .array .int
  | 21 => .array .int
  | 22 => .array .int
  | 23 => .array .int
  | 24 => .int
  | 25 => .int
  | 26 => .int
  | 27 => .int
  | 28 => .int
  | 29 => .array .int
  | 30 => .array .int
  | 31 => .array .int
  | 32 => .array .int
  | 33 => .array .int
  | 34 => .array .int
  | 35 => .int
  | 36 => .array .int
  | 37 => .array .int
  | 38 => .array .boolean
  | _ => .array .int
abbrev wsX70 : List Cond := u_ws RX7 TX7 40
theorem nmX7 : ∀ a, a < 40 → ∀ b, b < 40 → a ≠ b → (TX7 a).2.1 ≠ (TX7 b).2.1 := by decide +kernel
theorem tyX7_ok : ∀ k, k < 40 → parseFieldDescriptor (TX7 k).2.2.1 = some (tyX7 k) := by decide +kernel
abbrev cX7_init : ByteArray := prog_9_method_1_code
def yX7_init : MethodName := ⟨RX7, "<init>", "()V"⟩
abbrev cX7_isIn : ByteArray := prog_9_method_2_code
def yX7_isIn : MethodName := ⟨RX7, "isIn", "(III)Z"⟩
abbrev cX7_isBook : ByteArray := prog_9_method_3_code
def yX7_isBook : MethodName := ⟨RX7, "isBook", "(I)Z"⟩
abbrev cX7_four : ByteArray := prog_9_method_4_code
def yX7_four : MethodName := ⟨RX7, "four", "(I)V"⟩
abbrev cX7_feed : ByteArray := prog_9_method_5_code
def yX7_feed : MethodName := ⟨RX7, "feed", "(IIIII)I"⟩
abbrev cX7_end : ByteArray := prog_9_method_6_code
def yX7_end : MethodName := ⟨RX7, "end", "(I)I"⟩
abbrev cX7_see : ByteArray := prog_9_method_7_code
def yX7_see : MethodName := ⟨RX7, "see", "(I)I"⟩
abbrev cX7_digitsHere : ByteArray := prog_9_method_8_code
def yX7_digitsHere : MethodName := ⟨RX7, "digitsHere", "()I"⟩
abbrev cX7_isMark : ByteArray := prog_9_method_9_code
def yX7_isMark : MethodName := ⟨RX7, "isMark", "(I)Z"⟩
abbrev cX7_book : ByteArray := prog_9_method_10_code
def yX7_book : MethodName := ⟨RX7, "book", "(III)I"⟩
abbrev cX7_wrong : ByteArray := prog_9_method_11_code
def yX7_wrong : MethodName := ⟨RX7, "wrong", "()I"⟩
abbrev cX7_rule : ByteArray := prog_9_method_12_code
def yX7_rule : MethodName := ⟨RX7, "rule", "(I)Z"⟩
abbrev cX7_keyOf : ByteArray := prog_9_method_13_code
def yX7_keyOf : MethodName := ⟨RX7, "keyOf", "(II)I"⟩
abbrev cX7_sign : ByteArray := prog_9_method_14_code
def yX7_sign : MethodName := ⟨RX7, "sign", "(II)I"⟩
abbrev cX7_against : ByteArray := prog_9_method_15_code
def yX7_against : MethodName := ⟨RX7, "against", "(III)I"⟩
abbrev cX7_compare : ByteArray := prog_9_method_16_code
def yX7_compare : MethodName := ⟨RX7, "compare", "(III)I"⟩
abbrev cX7_sort : ByteArray := prog_9_method_17_code
def yX7_sort : MethodName := ⟨RX7, "sort", "(I)V"⟩
abbrev cX7_ordered : ByteArray := prog_9_method_18_code
def yX7_ordered : MethodName := ⟨RX7, "ordered", "(II)I"⟩
abbrev cX7_quarrels : ByteArray := prog_9_method_19_code
def yX7_quarrels : MethodName := ⟨RX7, "quarrels", "()I"⟩
abbrev cX7_shelf : ByteArray := prog_9_method_20_code
def yX7_shelf : MethodName := ⟨RX7, "shelf", "(I)I"⟩
abbrev cX7_sizes : ByteArray := prog_9_method_21_code
def yX7_sizes : MethodName := ⟨RX7, "sizes", "(II)Z"⟩
abbrev cX7_lay : ByteArray := prog_9_method_22_code
def yX7_lay : MethodName := ⟨RX7, "lay", "()V"⟩
abbrev cX7_laid : ByteArray := prog_9_method_23_code
def yX7_laid : MethodName := ⟨RX7, "laid", "(II)I"⟩
abbrev cX7_shelfOf : ByteArray := prog_9_method_24_code
def yX7_shelfOf : MethodName := ⟨RX7, "shelfOf", "(II)I"⟩
abbrev cX7_counts : ByteArray := prog_9_method_25_code
def yX7_counts : MethodName := ⟨RX7, "counts", "(I)I"⟩
abbrev cX7_pack : ByteArray := prog_9_method_26_code
def yX7_pack : MethodName := ⟨RX7, "pack", "()V"⟩
abbrev cX7_meet : ByteArray := prog_9_method_27_code
def yX7_meet : MethodName := ⟨RX7, "meet", "()V"⟩
abbrev cX7_way : ByteArray := prog_9_method_28_code
def yX7_way : MethodName := ⟨RX7, "way", "(II)Z"⟩
abbrev cX7_crate : ByteArray := prog_9_method_29_code
def yX7_crate : MethodName := ⟨RX7, "crate", "(II)I"⟩
abbrev cX7_meeting : ByteArray := prog_9_method_30_code
def yX7_meeting : MethodName := ⟨RX7, "meeting", "(I)I"⟩
abbrev cX7_where : ByteArray := prog_9_method_31_code
def yX7_where : MethodName := ⟨RX7, "where", "(III)I"⟩
abbrev cX7_row : ByteArray := prog_9_method_32_code
def yX7_row : MethodName := ⟨RX7, "row", "()I"⟩
abbrev cX7_at : ByteArray := prog_9_method_33_code
def yX7_at : MethodName := ⟨RX7, "at", "(I)I"⟩
abbrev cX7_misplace : ByteArray := prog_9_method_34_code
def yX7_misplace : MethodName := ⟨RX7, "misplace", "(II)Z"⟩
abbrev cX7_takeOut : ByteArray := prog_9_method_35_code
def yX7_takeOut : MethodName := ⟨RX7, "takeOut", "()I"⟩
abbrev cX7_takenOut : ByteArray := prog_9_method_36_code
def yX7_takenOut : MethodName := ⟨RX7, "takenOut", "()I"⟩
abbrev cX7_isOut : ByteArray := prog_9_method_37_code
def yX7_isOut : MethodName := ⟨RX7, "isOut", "(I)I"⟩
abbrev cX7_drawn : ByteArray := prog_9_method_38_code
def yX7_drawn : MethodName := ⟨RX7, "drawn", "(III)I"⟩
abbrev cX7_about : ByteArray := prog_9_method_39_code
def yX7_about : MethodName := ⟨RX7, "about", "(I)I"⟩
def RJ9 : String := "java/lang/Math"
def TJ9 : u_T := fun k => match k with
  | _ => ("", "", "", false)
def tyJ9 : Nat → FieldType := fun k => match k with
  | _ => .int
abbrev cJ9_max_7cf53 : ByteArray := prog_10_method_65_code
def yJ9_max_7cf53 : MethodName := ⟨RJ9, "max", "(II)I"⟩
def RL : String := "BooksMovedLaw"
abbrev cL_law : ByteArray := code
def yL_law : MethodName := ⟨RL, "law", "([I)Z"⟩
abbrev vwCl : List vw_C := [(RX0, TX0, 8), (RX1, TX1, 11), (RX2, TX2, 6), (RX3, TX3, 6), (RX4, TX4, 10), (RX5, TX5, 2), (RX6, TX6, 9), (RX7, TX7, 40)]
end
section
theorem dX0_init_0 : decode cX0_init 0 = .ok (.aload_n 0, 1) := by decide +kernel
theorem dX0_init_1 : decode cX0_init 1 = .ok (.invokespecial 3, 3) := by decide +kernel
theorem dX0_init_4 : decode cX0_init 4 = .ok (.aload_n 0, 1) := by decide +kernel
theorem dX0_init_5 : decode cX0_init 5 = .ok (.iconst 2, 1) := by decide +kernel
theorem dX0_init_6 : decode cX0_init 6 = .ok (.bipush 60, 2) := by decide +kernel
theorem dX0_init_8 : decode cX0_init 8 = .ok (.multianewarray 9 2, 4) := by decide +kernel
theorem dX0_init_12 : decode cX0_init 12 = .ok (.putfield 11, 3) := by decide +kernel
theorem dX0_init_15 : decode cX0_init 15 = .ok (.aload_n 0, 1) := by decide +kernel
theorem dX0_init_16 : decode cX0_init 16 = .ok (.iconst 2, 1) := by decide +kernel
theorem dX0_init_17 : decode cX0_init 17 = .ok (.bipush 60, 2) := by decide +kernel
theorem dX0_init_19 : decode cX0_init 19 = .ok (.multianewarray 16 2, 4) := by decide +kernel
theorem dX0_init_23 : decode cX0_init 23 = .ok (.putfield 18, 3) := by decide +kernel
theorem dX0_init_26 : decode cX0_init 26 = .ok (.aload_n 0, 1) := by decide +kernel
theorem dX0_init_27 : decode cX0_init 27 = .ok (.bipush 60, 2) := by decide +kernel
theorem dX0_init_29 : decode cX0_init 29 = .ok (.newarray .int, 2) := by decide +kernel
theorem dX0_init_31 : decode cX0_init 31 = .ok (.putfield 21, 3) := by decide +kernel
theorem dX0_init_34 : decode cX0_init 34 = .ok (.aload_n 0, 1) := by decide +kernel
theorem dX0_init_35 : decode cX0_init 35 = .ok (.bipush 60, 2) := by decide +kernel
theorem dX0_init_37 : decode cX0_init 37 = .ok (.newarray .int, 2) := by decide +kernel
theorem dX0_init_39 : decode cX0_init 39 = .ok (.putfield 25, 3) := by decide +kernel
theorem dX0_init_42 : decode cX0_init 42 = .ok (.aload_n 0, 1) := by decide +kernel
theorem dX0_init_43 : decode cX0_init 43 = .ok (.bipush 60, 2) := by decide +kernel
theorem dX0_init_45 : decode cX0_init 45 = .ok (.newarray .int, 2) := by decide +kernel
theorem dX0_init_47 : decode cX0_init 47 = .ok (.putfield 28, 3) := by decide +kernel
theorem dX0_init_50 : decode cX0_init 50 = .ok (.aload_n 0, 1) := by decide +kernel
theorem dX0_init_51 : decode cX0_init 51 = .ok (.bipush 60, 2) := by decide +kernel
theorem dX0_init_53 : decode cX0_init 53 = .ok (.newarray .int, 2) := by decide +kernel
theorem dX0_init_55 : decode cX0_init 55 = .ok (.putfield 31, 3) := by decide +kernel
theorem dX0_init_58 : decode cX0_init 58 = .ok (.aload_n 0, 1) := by decide +kernel
theorem dX0_init_59 : decode cX0_init 59 = .ok (.iconst 0, 1) := by decide +kernel
theorem dX0_init_60 : decode cX0_init 60 = .ok (.putfield 34, 3) := by decide +kernel
theorem dX0_init_63 : decode cX0_init 63 = .ok (.aload_n 0, 1) := by decide +kernel
theorem dX0_init_64 : decode cX0_init 64 = .ok (.iconst 0, 1) := by decide +kernel
theorem dX0_init_65 : decode cX0_init 65 = .ok (.putfield 38, 3) := by decide +kernel
theorem dX0_init_68 : decode cX0_init 68 = .ok (.return_, 1) := by decide +kernel
theorem dX0_has_0 : decode cX0_has 0 = .ok (.iload_n 1, 1) := by decide +kernel
theorem dX0_has_1 : decode cX0_has 1 = .ok (.iconst 0, 1) := by decide +kernel
theorem dX0_has_2 : decode cX0_has 2 = .ok (.aload_n 0, 1) := by decide +kernel
theorem dX0_has_3 : decode cX0_has 3 = .ok (.getfield 34, 3) := by decide +kernel
theorem dX0_has_6 : decode cX0_has 6 = .ok (.iconst 1, 1) := by decide +kernel
theorem dX0_has_7 : decode cX0_has 7 = .ok (.isub, 1) := by decide +kernel
theorem dX0_has_8 : decode cX0_has 8 = .ok (.invokestatic 41, 3) := by decide +kernel
theorem dX0_has_11 : decode cX0_has 11 = .ok (.ireturn, 1) := by decide +kernel
theorem dX0_add_0 : decode cX0_add 0 = .ok (.aload_n 0, 1) := by decide +kernel
theorem dX0_add_1 : decode cX0_add 1 = .ok (.getfield 34, 3) := by decide +kernel
theorem dX0_add_4 : decode cX0_add 4 = .ok (.bipush 60, 2) := by decide +kernel
theorem dX0_add_6 : decode cX0_add 6 = .ok (.if_icmp .lt 5, 3) := by decide +kernel
theorem dX0_add_9 : decode cX0_add 9 = .ok (.iconst (-1), 1) := by decide +kernel
theorem dX0_add_10 : decode cX0_add 10 = .ok (.ireturn, 1) := by decide +kernel
theorem dX0_add_11 : decode cX0_add 11 = .ok (.aload_n 0, 1) := by decide +kernel
theorem dX0_add_12 : decode cX0_add 12 = .ok (.getfield 34, 3) := by decide +kernel
theorem dX0_add_15 : decode cX0_add 15 = .ok (.istore 5, 2) := by decide +kernel
theorem dX0_add_17 : decode cX0_add 17 = .ok (.aload_n 0, 1) := by decide +kernel
theorem dX0_add_18 : decode cX0_add 18 = .ok (.getfield 21, 3) := by decide +kernel
theorem dX0_add_21 : decode cX0_add 21 = .ok (.iload 5, 2) := by decide +kernel
theorem dX0_add_23 : decode cX0_add 23 = .ok (.iload_n 2, 1) := by decide +kernel
theorem dX0_add_24 : decode cX0_add 24 = .ok (.iastore, 1) := by decide +kernel
theorem dX0_add_25 : decode cX0_add 25 = .ok (.aload_n 0, 1) := by decide +kernel
theorem dX0_add_26 : decode cX0_add 26 = .ok (.getfield 25, 3) := by decide +kernel
theorem dX0_add_29 : decode cX0_add 29 = .ok (.iload 5, 2) := by decide +kernel
theorem dX0_add_31 : decode cX0_add 31 = .ok (.iload_n 3, 1) := by decide +kernel
theorem dX0_add_32 : decode cX0_add 32 = .ok (.iastore, 1) := by decide +kernel
theorem dX0_add_33 : decode cX0_add 33 = .ok (.aload_n 0, 1) := by decide +kernel
theorem dX0_add_34 : decode cX0_add 34 = .ok (.getfield 28, 3) := by decide +kernel
theorem dX0_add_37 : decode cX0_add 37 = .ok (.iload 5, 2) := by decide +kernel
theorem dX0_add_39 : decode cX0_add 39 = .ok (.iload 4, 2) := by decide +kernel
theorem dX0_add_41 : decode cX0_add 41 = .ok (.iastore, 1) := by decide +kernel
theorem dX0_add_42 : decode cX0_add 42 = .ok (.aload_n 0, 1) := by decide +kernel
theorem dX0_add_43 : decode cX0_add 43 = .ok (.getfield 31, 3) := by decide +kernel
theorem dX0_add_46 : decode cX0_add 46 = .ok (.iload 5, 2) := by decide +kernel
theorem dX0_add_48 : decode cX0_add 48 = .ok (.aload_n 1, 1) := by decide +kernel
theorem dX0_add_49 : decode cX0_add 49 = .ok (.getfield 45, 3) := by decide +kernel
theorem dX0_add_52 : decode cX0_add 52 = .ok (.sipush 1000, 3) := by decide +kernel
theorem dX0_add_55 : decode cX0_add 55 = .ok (.idiv, 1) := by decide +kernel
theorem dX0_add_56 : decode cX0_add 56 = .ok (.iastore, 1) := by decide +kernel
theorem dX0_add_57 : decode cX0_add 57 = .ok (.iconst 0, 1) := by decide +kernel
theorem dX0_add_58 : decode cX0_add 58 = .ok (.istore 6, 2) := by decide +kernel
theorem dX0_add_60 : decode cX0_add 60 = .ok (.iload 6, 2) := by decide +kernel
theorem dX0_add_62 : decode cX0_add 62 = .ok (.iconst 2, 1) := by decide +kernel
theorem dX0_add_63 : decode cX0_add 63 = .ok (.if_icmp .ge 33, 3) := by decide +kernel
theorem dX0_add_66 : decode cX0_add 66 = .ok (.aload_n 0, 1) := by decide +kernel
theorem dX0_add_67 : decode cX0_add 67 = .ok (.getfield 11, 3) := by decide +kernel
theorem dX0_add_70 : decode cX0_add 70 = .ok (.iload 6, 2) := by decide +kernel
theorem dX0_add_72 : decode cX0_add 72 = .ok (.aaload, 1) := by decide +kernel
theorem dX0_add_73 : decode cX0_add 73 = .ok (.iload 5, 2) := by decide +kernel
theorem dX0_add_75 : decode cX0_add 75 = .ok (.aload_n 1, 1) := by decide +kernel
theorem dX0_add_76 : decode cX0_add 76 = .ok (.iload 6, 2) := by decide +kernel
theorem dX0_add_78 : decode cX0_add 78 = .ok (.invokevirtual 50, 3) := by decide +kernel
theorem dX0_add_81 : decode cX0_add 81 = .ok (.lastore, 1) := by decide +kernel
theorem dX0_add_82 : decode cX0_add 82 = .ok (.aload_n 0, 1) := by decide +kernel
theorem dX0_add_83 : decode cX0_add 83 = .ok (.iload 5, 2) := by decide +kernel
theorem dX0_add_85 : decode cX0_add 85 = .ok (.iload 6, 2) := by decide +kernel
theorem dX0_add_87 : decode cX0_add 87 = .ok (.invokevirtual 54, 3) := by decide +kernel
theorem dX0_add_90 : decode cX0_add 90 = .ok (.iinc 6 1, 3) := by decide +kernel
theorem dX0_add_93 : decode cX0_add 93 = .ok (.goto (-33), 3) := by decide +kernel
theorem dX0_add_96 : decode cX0_add 96 = .ok (.aload_n 0, 1) := by decide +kernel
theorem dX0_add_97 : decode cX0_add 97 = .ok (.dup, 1) := by decide +kernel
theorem dX0_add_98 : decode cX0_add 98 = .ok (.getfield 38, 3) := by decide +kernel
theorem dX0_add_101 : decode cX0_add 101 = .ok (.aload_n 0, 1) := by decide +kernel
theorem dX0_add_102 : decode cX0_add 102 = .ok (.iload 5, 2) := by decide +kernel
theorem dX0_add_104 : decode cX0_add 104 = .ok (.invokevirtual 58, 3) := by decide +kernel
theorem dX0_add_107 : decode cX0_add 107 = .ok (.iadd, 1) := by decide +kernel
theorem dX0_add_108 : decode cX0_add 108 = .ok (.putfield 38, 3) := by decide +kernel
theorem dX0_add_111 : decode cX0_add 111 = .ok (.aload_n 0, 1) := by decide +kernel
theorem dX0_add_112 : decode cX0_add 112 = .ok (.dup, 1) := by decide +kernel
theorem dX0_add_113 : decode cX0_add 113 = .ok (.getfield 34, 3) := by decide +kernel
theorem dX0_add_116 : decode cX0_add 116 = .ok (.iconst 1, 1) := by decide +kernel
theorem dX0_add_117 : decode cX0_add 117 = .ok (.iadd, 1) := by decide +kernel
theorem dX0_add_118 : decode cX0_add 118 = .ok (.putfield 34, 3) := by decide +kernel
theorem dX0_add_121 : decode cX0_add 121 = .ok (.iload 5, 2) := by decide +kernel
theorem dX0_add_123 : decode cX0_add 123 = .ok (.ireturn, 1) := by decide +kernel
theorem dX0_sign_0 : decode cX0_sign 0 = .ok (.aload_n 0, 1) := by decide +kernel
theorem dX0_sign_1 : decode cX0_sign 1 = .ok (.getfield 11, 3) := by decide +kernel
theorem dX0_sign_4 : decode cX0_sign 4 = .ok (.iload_n 3, 1) := by decide +kernel
theorem dX0_sign_5 : decode cX0_sign 5 = .ok (.aaload, 1) := by decide +kernel
theorem dX0_sign_6 : decode cX0_sign 6 = .ok (.iload_n 1, 1) := by decide +kernel
theorem dX0_sign_7 : decode cX0_sign 7 = .ok (.laload, 1) := by decide +kernel
theorem dX0_sign_8 : decode cX0_sign 8 = .ok (.lstore 4, 2) := by decide +kernel
theorem dX0_sign_10 : decode cX0_sign 10 = .ok (.aload_n 0, 1) := by decide +kernel
theorem dX0_sign_11 : decode cX0_sign 11 = .ok (.getfield 11, 3) := by decide +kernel
theorem dX0_sign_14 : decode cX0_sign 14 = .ok (.iload_n 3, 1) := by decide +kernel
theorem dX0_sign_15 : decode cX0_sign 15 = .ok (.aaload, 1) := by decide +kernel
theorem dX0_sign_16 : decode cX0_sign 16 = .ok (.iload_n 2, 1) := by decide +kernel
theorem dX0_sign_17 : decode cX0_sign 17 = .ok (.laload, 1) := by decide +kernel
theorem dX0_sign_18 : decode cX0_sign 18 = .ok (.lstore 6, 2) := by decide +kernel
theorem dX0_sign_20 : decode cX0_sign 20 = .ok (.lload 4, 2) := by decide +kernel
theorem dX0_sign_22 : decode cX0_sign 22 = .ok (.lload 6, 2) := by decide +kernel
theorem dX0_sign_24 : decode cX0_sign 24 = .ok (.lcmp, 1) := by decide +kernel
theorem dX0_sign_25 : decode cX0_sign 25 = .ok (.ifCond .eq 17, 3) := by decide +kernel
theorem dX0_sign_28 : decode cX0_sign 28 = .ok (.lload 4, 2) := by decide +kernel
theorem dX0_sign_30 : decode cX0_sign 30 = .ok (.lload 6, 2) := by decide +kernel
theorem dX0_sign_32 : decode cX0_sign 32 = .ok (.lcmp, 1) := by decide +kernel
theorem dX0_sign_33 : decode cX0_sign 33 = .ok (.ifCond .ge 7, 3) := by decide +kernel
theorem dX0_sign_36 : decode cX0_sign 36 = .ok (.iconst (-1), 1) := by decide +kernel
theorem dX0_sign_37 : decode cX0_sign 37 = .ok (.goto 4, 3) := by decide +kernel
theorem dX0_sign_40 : decode cX0_sign 40 = .ok (.iconst 1, 1) := by decide +kernel
theorem dX0_sign_41 : decode cX0_sign 41 = .ok (.ireturn, 1) := by decide +kernel
theorem dX0_sign_42 : decode cX0_sign 42 = .ok (.iload_n 1, 1) := by decide +kernel
theorem dX0_sign_43 : decode cX0_sign 43 = .ok (.iload_n 2, 1) := by decide +kernel
theorem dX0_sign_44 : decode cX0_sign 44 = .ok (.if_icmp .ge 7, 3) := by decide +kernel
theorem dX0_sign_47 : decode cX0_sign 47 = .ok (.iconst (-1), 1) := by decide +kernel
theorem dX0_sign_48 : decode cX0_sign 48 = .ok (.goto 13, 3) := by decide +kernel
theorem dX0_sign_51 : decode cX0_sign 51 = .ok (.iload_n 1, 1) := by decide +kernel
theorem dX0_sign_52 : decode cX0_sign 52 = .ok (.iload_n 2, 1) := by decide +kernel
theorem dX0_sign_53 : decode cX0_sign 53 = .ok (.if_icmp .ne 7, 3) := by decide +kernel
theorem dX0_sign_56 : decode cX0_sign 56 = .ok (.iconst 0, 1) := by decide +kernel
theorem dX0_sign_57 : decode cX0_sign 57 = .ok (.goto 4, 3) := by decide +kernel
theorem dX0_sign_60 : decode cX0_sign 60 = .ok (.iconst 1, 1) := by decide +kernel
theorem dX0_sign_61 : decode cX0_sign 61 = .ok (.ireturn, 1) := by decide +kernel
theorem dX0_putInOrder_0 : decode cX0_putInOrder 0 = .ok (.iload_n 1, 1) := by decide +kernel
theorem dX0_putInOrder_1 : decode cX0_putInOrder 1 = .ok (.istore_n 3, 1) := by decide +kernel
theorem dX0_putInOrder_2 : decode cX0_putInOrder 2 = .ok (.iload_n 3, 1) := by decide +kernel
theorem dX0_putInOrder_3 : decode cX0_putInOrder 3 = .ok (.ifCond .le 46, 3) := by decide +kernel
theorem dX0_putInOrder_6 : decode cX0_putInOrder 6 = .ok (.aload_n 0, 1) := by decide +kernel
theorem dX0_putInOrder_7 : decode cX0_putInOrder 7 = .ok (.iload_n 1, 1) := by decide +kernel
theorem dX0_putInOrder_8 : decode cX0_putInOrder 8 = .ok (.aload_n 0, 1) := by decide +kernel
theorem dX0_putInOrder_9 : decode cX0_putInOrder 9 = .ok (.getfield 18, 3) := by decide +kernel
theorem dX0_putInOrder_12 : decode cX0_putInOrder 12 = .ok (.iload_n 2, 1) := by decide +kernel
theorem dX0_putInOrder_13 : decode cX0_putInOrder 13 = .ok (.aaload, 1) := by decide +kernel
theorem dX0_putInOrder_14 : decode cX0_putInOrder 14 = .ok (.iload_n 3, 1) := by decide +kernel
theorem dX0_putInOrder_15 : decode cX0_putInOrder 15 = .ok (.iconst 1, 1) := by decide +kernel
theorem dX0_putInOrder_16 : decode cX0_putInOrder 16 = .ok (.isub, 1) := by decide +kernel
theorem dX0_putInOrder_17 : decode cX0_putInOrder 17 = .ok (.iaload, 1) := by decide +kernel
theorem dX0_putInOrder_18 : decode cX0_putInOrder 18 = .ok (.iload_n 2, 1) := by decide +kernel
theorem dX0_putInOrder_19 : decode cX0_putInOrder 19 = .ok (.invokevirtual 62, 3) := by decide +kernel
theorem dX0_putInOrder_22 : decode cX0_putInOrder 22 = .ok (.ifCond .ge 27, 3) := by decide +kernel
theorem dX0_putInOrder_25 : decode cX0_putInOrder 25 = .ok (.aload_n 0, 1) := by decide +kernel
theorem dX0_putInOrder_26 : decode cX0_putInOrder 26 = .ok (.getfield 18, 3) := by decide +kernel
theorem dX0_putInOrder_29 : decode cX0_putInOrder 29 = .ok (.iload_n 2, 1) := by decide +kernel
theorem dX0_putInOrder_30 : decode cX0_putInOrder 30 = .ok (.aaload, 1) := by decide +kernel
theorem dX0_putInOrder_31 : decode cX0_putInOrder 31 = .ok (.iload_n 3, 1) := by decide +kernel
theorem dX0_putInOrder_32 : decode cX0_putInOrder 32 = .ok (.aload_n 0, 1) := by decide +kernel
theorem dX0_putInOrder_33 : decode cX0_putInOrder 33 = .ok (.getfield 18, 3) := by decide +kernel
theorem dX0_putInOrder_36 : decode cX0_putInOrder 36 = .ok (.iload_n 2, 1) := by decide +kernel
theorem dX0_putInOrder_37 : decode cX0_putInOrder 37 = .ok (.aaload, 1) := by decide +kernel
theorem dX0_putInOrder_38 : decode cX0_putInOrder 38 = .ok (.iload_n 3, 1) := by decide +kernel
theorem dX0_putInOrder_39 : decode cX0_putInOrder 39 = .ok (.iconst 1, 1) := by decide +kernel
theorem dX0_putInOrder_40 : decode cX0_putInOrder 40 = .ok (.isub, 1) := by decide +kernel
theorem dX0_putInOrder_41 : decode cX0_putInOrder 41 = .ok (.iaload, 1) := by decide +kernel
theorem dX0_putInOrder_42 : decode cX0_putInOrder 42 = .ok (.iastore, 1) := by decide +kernel
theorem dX0_putInOrder_43 : decode cX0_putInOrder 43 = .ok (.iinc 3 (-1), 3) := by decide +kernel
theorem dX0_putInOrder_46 : decode cX0_putInOrder 46 = .ok (.goto (-44), 3) := by decide +kernel
theorem dX0_putInOrder_49 : decode cX0_putInOrder 49 = .ok (.aload_n 0, 1) := by decide +kernel
theorem dX0_putInOrder_50 : decode cX0_putInOrder 50 = .ok (.getfield 18, 3) := by decide +kernel
theorem dX0_putInOrder_53 : decode cX0_putInOrder 53 = .ok (.iload_n 2, 1) := by decide +kernel
theorem dX0_putInOrder_54 : decode cX0_putInOrder 54 = .ok (.aaload, 1) := by decide +kernel
theorem dX0_putInOrder_55 : decode cX0_putInOrder 55 = .ok (.iload_n 3, 1) := by decide +kernel
theorem dX0_putInOrder_56 : decode cX0_putInOrder 56 = .ok (.iload_n 1, 1) := by decide +kernel
theorem dX0_putInOrder_57 : decode cX0_putInOrder 57 = .ok (.iastore, 1) := by decide +kernel
theorem dX0_putInOrder_58 : decode cX0_putInOrder 58 = .ok (.return_, 1) := by decide +kernel
theorem dX0_quarrelsWithEarlier_0 : decode cX0_quarrelsWithEarlier 0 = .ok (.iconst 0, 1) := by decide +kernel
theorem dX0_quarrelsWithEarlier_1 : decode cX0_quarrelsWithEarlier 1 = .ok (.istore_n 2, 1) := by decide +kernel
theorem dX0_quarrelsWithEarlier_2 : decode cX0_quarrelsWithEarlier 2 = .ok (.iconst 0, 1) := by decide +kernel
theorem dX0_quarrelsWithEarlier_3 : decode cX0_quarrelsWithEarlier 3 = .ok (.istore_n 3, 1) := by decide +kernel
theorem dX0_quarrelsWithEarlier_4 : decode cX0_quarrelsWithEarlier 4 = .ok (.iload_n 3, 1) := by decide +kernel
theorem dX0_quarrelsWithEarlier_5 : decode cX0_quarrelsWithEarlier 5 = .ok (.iload_n 1, 1) := by decide +kernel
theorem dX0_quarrelsWithEarlier_6 : decode cX0_quarrelsWithEarlier 6 = .ok (.if_icmp .ge 29, 3) := by decide +kernel
theorem dX0_quarrelsWithEarlier_9 : decode cX0_quarrelsWithEarlier 9 = .ok (.aload_n 0, 1) := by decide +kernel
theorem dX0_quarrelsWithEarlier_10 : decode cX0_quarrelsWithEarlier 10 = .ok (.iload_n 3, 1) := by decide +kernel
theorem dX0_quarrelsWithEarlier_11 : decode cX0_quarrelsWithEarlier 11 = .ok (.iload_n 1, 1) := by decide +kernel
theorem dX0_quarrelsWithEarlier_12 : decode cX0_quarrelsWithEarlier 12 = .ok (.iconst 0, 1) := by decide +kernel
theorem dX0_quarrelsWithEarlier_13 : decode cX0_quarrelsWithEarlier 13 = .ok (.invokevirtual 62, 3) := by decide +kernel
theorem dX0_quarrelsWithEarlier_16 : decode cX0_quarrelsWithEarlier 16 = .ok (.aload_n 0, 1) := by decide +kernel
theorem dX0_quarrelsWithEarlier_17 : decode cX0_quarrelsWithEarlier 17 = .ok (.iload_n 3, 1) := by decide +kernel
theorem dX0_quarrelsWithEarlier_18 : decode cX0_quarrelsWithEarlier 18 = .ok (.iload_n 1, 1) := by decide +kernel
theorem dX0_quarrelsWithEarlier_19 : decode cX0_quarrelsWithEarlier 19 = .ok (.iconst 1, 1) := by decide +kernel
theorem dX0_quarrelsWithEarlier_20 : decode cX0_quarrelsWithEarlier 20 = .ok (.invokevirtual 62, 3) := by decide +kernel
theorem dX0_quarrelsWithEarlier_23 : decode cX0_quarrelsWithEarlier 23 = .ok (.if_icmp .eq 6, 3) := by decide +kernel
theorem dX0_quarrelsWithEarlier_26 : decode cX0_quarrelsWithEarlier 26 = .ok (.iinc 2 1, 3) := by decide +kernel
theorem dX0_quarrelsWithEarlier_29 : decode cX0_quarrelsWithEarlier 29 = .ok (.iinc 3 1, 3) := by decide +kernel
theorem dX0_quarrelsWithEarlier_32 : decode cX0_quarrelsWithEarlier 32 = .ok (.goto (-28), 3) := by decide +kernel
theorem dX0_quarrelsWithEarlier_35 : decode cX0_quarrelsWithEarlier 35 = .ok (.iload_n 2, 1) := by decide +kernel
theorem dX0_quarrelsWithEarlier_36 : decode cX0_quarrelsWithEarlier 36 = .ok (.ireturn, 1) := by decide +kernel
theorem dX1_init_0 : decode cX1_init 0 = .ok (.aload_n 0, 1) := by decide +kernel
theorem dX1_init_1 : decode cX1_init 1 = .ok (.invokespecial 3, 3) := by decide +kernel
theorem dX1_init_4 : decode cX1_init 4 = .ok (.aload_n 0, 1) := by decide +kernel
theorem dX1_init_5 : decode cX1_init 5 = .ok (.iconst 5, 1) := by decide +kernel
theorem dX1_init_6 : decode cX1_init 6 = .ok (.newarray .int, 2) := by decide +kernel
theorem dX1_init_8 : decode cX1_init 8 = .ok (.dup, 1) := by decide +kernel
theorem dX1_init_9 : decode cX1_init 9 = .ok (.iconst 0, 1) := by decide +kernel
theorem dX1_init_10 : decode cX1_init 10 = .ok (.bipush 10, 2) := by decide +kernel
theorem dX1_init_12 : decode cX1_init 12 = .ok (.iastore, 1) := by decide +kernel
theorem dX1_init_13 : decode cX1_init 13 = .ok (.dup, 1) := by decide +kernel
theorem dX1_init_14 : decode cX1_init 14 = .ok (.iconst 1, 1) := by decide +kernel
theorem dX1_init_15 : decode cX1_init 15 = .ok (.bipush 10, 2) := by decide +kernel
theorem dX1_init_17 : decode cX1_init 17 = .ok (.iastore, 1) := by decide +kernel
theorem dX1_init_18 : decode cX1_init 18 = .ok (.dup, 1) := by decide +kernel
theorem dX1_init_19 : decode cX1_init 19 = .ok (.iconst 2, 1) := by decide +kernel
theorem dX1_init_20 : decode cX1_init 20 = .ok (.bipush 10, 2) := by decide +kernel
theorem dX1_init_22 : decode cX1_init 22 = .ok (.iastore, 1) := by decide +kernel
theorem dX1_init_23 : decode cX1_init 23 = .ok (.dup, 1) := by decide +kernel
theorem dX1_init_24 : decode cX1_init 24 = .ok (.iconst 3, 1) := by decide +kernel
theorem dX1_init_25 : decode cX1_init 25 = .ok (.bipush 10, 2) := by decide +kernel
theorem dX1_init_27 : decode cX1_init 27 = .ok (.iastore, 1) := by decide +kernel
theorem dX1_init_28 : decode cX1_init 28 = .ok (.dup, 1) := by decide +kernel
theorem dX1_init_29 : decode cX1_init 29 = .ok (.iconst 4, 1) := by decide +kernel
theorem dX1_init_30 : decode cX1_init 30 = .ok (.bipush 10, 2) := by decide +kernel
theorem dX1_init_32 : decode cX1_init 32 = .ok (.iastore, 1) := by decide +kernel
theorem dX1_init_33 : decode cX1_init 33 = .ok (.putfield 9, 3) := by decide +kernel
theorem dX1_init_36 : decode cX1_init 36 = .ok (.aload_n 0, 1) := by decide +kernel
theorem dX1_init_37 : decode cX1_init 37 = .ok (.bipush 60, 2) := by decide +kernel
theorem dX1_init_39 : decode cX1_init 39 = .ok (.newarray .int, 2) := by decide +kernel
theorem dX1_init_41 : decode cX1_init 41 = .ok (.putfield 15, 3) := by decide +kernel
theorem dX1_init_44 : decode cX1_init 44 = .ok (.aload_n 0, 1) := by decide +kernel
theorem dX1_init_45 : decode cX1_init 45 = .ok (.bipush 60, 2) := by decide +kernel
theorem dX1_init_47 : decode cX1_init 47 = .ok (.newarray .int, 2) := by decide +kernel
theorem dX1_init_49 : decode cX1_init 49 = .ok (.putfield 18, 3) := by decide +kernel
theorem dX1_init_52 : decode cX1_init 52 = .ok (.aload_n 0, 1) := by decide +kernel
theorem dX1_init_53 : decode cX1_init 53 = .ok (.bipush 60, 2) := by decide +kernel
theorem dX1_init_55 : decode cX1_init 55 = .ok (.newarray .int, 2) := by decide +kernel
theorem dX1_init_57 : decode cX1_init 57 = .ok (.putfield 21, 3) := by decide +kernel
theorem dX1_init_60 : decode cX1_init 60 = .ok (.aload_n 0, 1) := by decide +kernel
theorem dX1_init_61 : decode cX1_init 61 = .ok (.bipush 60, 2) := by decide +kernel
theorem dX1_init_63 : decode cX1_init 63 = .ok (.newarray .int, 2) := by decide +kernel
theorem dX1_init_65 : decode cX1_init 65 = .ok (.putfield 24, 3) := by decide +kernel
theorem dX1_init_68 : decode cX1_init 68 = .ok (.aload_n 0, 1) := by decide +kernel
theorem dX1_init_69 : decode cX1_init 69 = .ok (.bipush 60, 2) := by decide +kernel
theorem dX1_init_71 : decode cX1_init 71 = .ok (.newarray .int, 2) := by decide +kernel
theorem dX1_init_73 : decode cX1_init 73 = .ok (.putfield 27, 3) := by decide +kernel
theorem dX1_init_76 : decode cX1_init 76 = .ok (.aload_n 0, 1) := by decide +kernel
theorem dX1_init_77 : decode cX1_init 77 = .ok (.bipush 60, 2) := by decide +kernel
theorem dX1_init_79 : decode cX1_init 79 = .ok (.newarray .int, 2) := by decide +kernel
theorem dX1_init_81 : decode cX1_init 81 = .ok (.putfield 30, 3) := by decide +kernel
theorem dX1_init_84 : decode cX1_init 84 = .ok (.aload_n 0, 1) := by decide +kernel
theorem dX1_init_85 : decode cX1_init 85 = .ok (.bipush 100, 2) := by decide +kernel
theorem dX1_init_87 : decode cX1_init 87 = .ok (.putfield 33, 3) := by decide +kernel
theorem dX1_init_90 : decode cX1_init 90 = .ok (.aload_n 0, 1) := by decide +kernel
theorem dX1_init_91 : decode cX1_init 91 = .ok (.iconst 0, 1) := by decide +kernel
theorem dX1_init_92 : decode cX1_init 92 = .ok (.putfield 37, 3) := by decide +kernel
theorem dX1_init_95 : decode cX1_init 95 = .ok (.aload_n 0, 1) := by decide +kernel
theorem dX1_init_96 : decode cX1_init 96 = .ok (.iconst 0, 1) := by decide +kernel
theorem dX1_init_97 : decode cX1_init 97 = .ok (.putfield 40, 3) := by decide +kernel
theorem dX1_init_100 : decode cX1_init 100 = .ok (.aload_n 0, 1) := by decide +kernel
theorem dX1_init_101 : decode cX1_init 101 = .ok (.iconst 0, 1) := by decide +kernel
theorem dX1_init_102 : decode cX1_init 102 = .ok (.putfield 43, 3) := by decide +kernel
theorem dX1_init_105 : decode cX1_init 105 = .ok (.return_, 1) := by decide +kernel
theorem dX1_pack_0 : decode cX1_pack 0 = .ok (.aload_n 0, 1) := by decide +kernel
theorem dX1_pack_1 : decode cX1_pack 1 = .ok (.iconst 0, 1) := by decide +kernel
theorem dX1_pack_2 : decode cX1_pack 2 = .ok (.putfield 37, 3) := by decide +kernel
theorem dX1_pack_5 : decode cX1_pack 5 = .ok (.iconst 0, 1) := by decide +kernel
theorem dX1_pack_6 : decode cX1_pack 6 = .ok (.istore_n 3, 1) := by decide +kernel
theorem dX1_pack_7 : decode cX1_pack 7 = .ok (.iconst 0, 1) := by decide +kernel
theorem dX1_pack_8 : decode cX1_pack 8 = .ok (.istore 4, 2) := by decide +kernel
theorem dX1_pack_10 : decode cX1_pack 10 = .ok (.iload 4, 2) := by decide +kernel
theorem dX1_pack_12 : decode cX1_pack 12 = .ok (.aload_n 1, 1) := by decide +kernel
theorem dX1_pack_13 : decode cX1_pack 13 = .ok (.getfield 46, 3) := by decide +kernel
theorem dX1_pack_16 : decode cX1_pack 16 = .ok (.if_icmp .ge 163, 3) := by decide +kernel
theorem dX1_pack_19 : decode cX1_pack 19 = .ok (.aload_n 1, 1) := by decide +kernel
theorem dX1_pack_20 : decode cX1_pack 20 = .ok (.getfield 49, 3) := by decide +kernel
theorem dX1_pack_23 : decode cX1_pack 23 = .ok (.iload_n 2, 1) := by decide +kernel
theorem dX1_pack_24 : decode cX1_pack 24 = .ok (.aaload, 1) := by decide +kernel
theorem dX1_pack_25 : decode cX1_pack 25 = .ok (.iload 4, 2) := by decide +kernel
theorem dX1_pack_27 : decode cX1_pack 27 = .ok (.iaload, 1) := by decide +kernel
theorem dX1_pack_28 : decode cX1_pack 28 = .ok (.istore 5, 2) := by decide +kernel
theorem dX1_pack_30 : decode cX1_pack 30 = .ok (.aload_n 0, 1) := by decide +kernel
theorem dX1_pack_31 : decode cX1_pack 31 = .ok (.getfield 37, 3) := by decide +kernel
theorem dX1_pack_34 : decode cX1_pack 34 = .ok (.ifCond .le 44, 3) := by decide +kernel
theorem dX1_pack_37 : decode cX1_pack 37 = .ok (.aload_n 0, 1) := by decide +kernel
theorem dX1_pack_38 : decode cX1_pack 38 = .ok (.getfield 21, 3) := by decide +kernel
theorem dX1_pack_41 : decode cX1_pack 41 = .ok (.aload_n 0, 1) := by decide +kernel
theorem dX1_pack_42 : decode cX1_pack 42 = .ok (.getfield 37, 3) := by decide +kernel
theorem dX1_pack_45 : decode cX1_pack 45 = .ok (.iconst 1, 1) := by decide +kernel
theorem dX1_pack_46 : decode cX1_pack 46 = .ok (.isub, 1) := by decide +kernel
theorem dX1_pack_47 : decode cX1_pack 47 = .ok (.iaload, 1) := by decide +kernel
theorem dX1_pack_48 : decode cX1_pack 48 = .ok (.aload_n 1, 1) := by decide +kernel
theorem dX1_pack_49 : decode cX1_pack 49 = .ok (.getfield 53, 3) := by decide +kernel
theorem dX1_pack_52 : decode cX1_pack 52 = .ok (.iload 5, 2) := by decide +kernel
theorem dX1_pack_54 : decode cX1_pack 54 = .ok (.iaload, 1) := by decide +kernel
theorem dX1_pack_55 : decode cX1_pack 55 = .ok (.if_icmp .ne 23, 3) := by decide +kernel
theorem dX1_pack_58 : decode cX1_pack 58 = .ok (.iload_n 3, 1) := by decide +kernel
theorem dX1_pack_59 : decode cX1_pack 59 = .ok (.aload_n 1, 1) := by decide +kernel
theorem dX1_pack_60 : decode cX1_pack 60 = .ok (.getfield 54, 3) := by decide +kernel
theorem dX1_pack_63 : decode cX1_pack 63 = .ok (.iload 5, 2) := by decide +kernel
theorem dX1_pack_65 : decode cX1_pack 65 = .ok (.iaload, 1) := by decide +kernel
theorem dX1_pack_66 : decode cX1_pack 66 = .ok (.iadd, 1) := by decide +kernel
theorem dX1_pack_67 : decode cX1_pack 67 = .ok (.aload_n 0, 1) := by decide +kernel
theorem dX1_pack_68 : decode cX1_pack 68 = .ok (.getfield 33, 3) := by decide +kernel
theorem dX1_pack_71 : decode cX1_pack 71 = .ok (.if_icmp .gt 7, 3) := by decide +kernel
theorem dX1_pack_74 : decode cX1_pack 74 = .ok (.iconst 1, 1) := by decide +kernel
theorem dX1_pack_75 : decode cX1_pack 75 = .ok (.goto 4, 3) := by decide +kernel
theorem dX1_pack_78 : decode cX1_pack 78 = .ok (.iconst 0, 1) := by decide +kernel
theorem dX1_pack_79 : decode cX1_pack 79 = .ok (.istore 6, 2) := by decide +kernel
theorem dX1_pack_81 : decode cX1_pack 81 = .ok (.iload 6, 2) := by decide +kernel
theorem dX1_pack_83 : decode cX1_pack 83 = .ok (.ifCond .ne 52, 3) := by decide +kernel
theorem dX1_pack_86 : decode cX1_pack 86 = .ok (.aload_n 0, 1) := by decide +kernel
theorem dX1_pack_87 : decode cX1_pack 87 = .ok (.getfield 15, 3) := by decide +kernel
theorem dX1_pack_90 : decode cX1_pack 90 = .ok (.aload_n 0, 1) := by decide +kernel
theorem dX1_pack_91 : decode cX1_pack 91 = .ok (.getfield 37, 3) := by decide +kernel
theorem dX1_pack_94 : decode cX1_pack 94 = .ok (.iload 5, 2) := by decide +kernel
theorem dX1_pack_96 : decode cX1_pack 96 = .ok (.iastore, 1) := by decide +kernel
theorem dX1_pack_97 : decode cX1_pack 97 = .ok (.aload_n 0, 1) := by decide +kernel
theorem dX1_pack_98 : decode cX1_pack 98 = .ok (.getfield 18, 3) := by decide +kernel
theorem dX1_pack_101 : decode cX1_pack 101 = .ok (.aload_n 0, 1) := by decide +kernel
theorem dX1_pack_102 : decode cX1_pack 102 = .ok (.getfield 37, 3) := by decide +kernel
theorem dX1_pack_105 : decode cX1_pack 105 = .ok (.iconst 0, 1) := by decide +kernel
theorem dX1_pack_106 : decode cX1_pack 106 = .ok (.iastore, 1) := by decide +kernel
theorem dX1_pack_107 : decode cX1_pack 107 = .ok (.aload_n 0, 1) := by decide +kernel
theorem dX1_pack_108 : decode cX1_pack 108 = .ok (.getfield 21, 3) := by decide +kernel
theorem dX1_pack_111 : decode cX1_pack 111 = .ok (.aload_n 0, 1) := by decide +kernel
theorem dX1_pack_112 : decode cX1_pack 112 = .ok (.getfield 37, 3) := by decide +kernel
theorem dX1_pack_115 : decode cX1_pack 115 = .ok (.aload_n 1, 1) := by decide +kernel
theorem dX1_pack_116 : decode cX1_pack 116 = .ok (.getfield 53, 3) := by decide +kernel
theorem dX1_pack_119 : decode cX1_pack 119 = .ok (.iload 5, 2) := by decide +kernel
theorem dX1_pack_121 : decode cX1_pack 121 = .ok (.iaload, 1) := by decide +kernel
theorem dX1_pack_122 : decode cX1_pack 122 = .ok (.iastore, 1) := by decide +kernel
theorem dX1_pack_123 : decode cX1_pack 123 = .ok (.iconst 0, 1) := by decide +kernel
theorem dX1_pack_124 : decode cX1_pack 124 = .ok (.istore_n 3, 1) := by decide +kernel
theorem dX1_pack_125 : decode cX1_pack 125 = .ok (.aload_n 0, 1) := by decide +kernel
theorem dX1_pack_126 : decode cX1_pack 126 = .ok (.dup, 1) := by decide +kernel
theorem dX1_pack_127 : decode cX1_pack 127 = .ok (.getfield 37, 3) := by decide +kernel
theorem dX1_pack_130 : decode cX1_pack 130 = .ok (.iconst 1, 1) := by decide +kernel
theorem dX1_pack_131 : decode cX1_pack 131 = .ok (.iadd, 1) := by decide +kernel
theorem dX1_pack_132 : decode cX1_pack 132 = .ok (.putfield 37, 3) := by decide +kernel
theorem dX1_pack_135 : decode cX1_pack 135 = .ok (.aload_n 0, 1) := by decide +kernel
theorem dX1_pack_136 : decode cX1_pack 136 = .ok (.getfield 30, 3) := by decide +kernel
theorem dX1_pack_139 : decode cX1_pack 139 = .ok (.iload 5, 2) := by decide +kernel
theorem dX1_pack_141 : decode cX1_pack 141 = .ok (.aload_n 0, 1) := by decide +kernel
theorem dX1_pack_142 : decode cX1_pack 142 = .ok (.getfield 37, 3) := by decide +kernel
theorem dX1_pack_145 : decode cX1_pack 145 = .ok (.iconst 1, 1) := by decide +kernel
theorem dX1_pack_146 : decode cX1_pack 146 = .ok (.isub, 1) := by decide +kernel
theorem dX1_pack_147 : decode cX1_pack 147 = .ok (.iastore, 1) := by decide +kernel
theorem dX1_pack_148 : decode cX1_pack 148 = .ok (.aload_n 0, 1) := by decide +kernel
theorem dX1_pack_149 : decode cX1_pack 149 = .ok (.getfield 18, 3) := by decide +kernel
theorem dX1_pack_152 : decode cX1_pack 152 = .ok (.aload_n 0, 1) := by decide +kernel
theorem dX1_pack_153 : decode cX1_pack 153 = .ok (.getfield 37, 3) := by decide +kernel
theorem dX1_pack_156 : decode cX1_pack 156 = .ok (.iconst 1, 1) := by decide +kernel
theorem dX1_pack_157 : decode cX1_pack 157 = .ok (.isub, 1) := by decide +kernel
theorem dX1_pack_158 : decode cX1_pack 158 = .ok (.dup2, 1) := by decide +kernel
theorem dX1_pack_159 : decode cX1_pack 159 = .ok (.iaload, 1) := by decide +kernel
theorem dX1_pack_160 : decode cX1_pack 160 = .ok (.iconst 1, 1) := by decide +kernel
theorem dX1_pack_161 : decode cX1_pack 161 = .ok (.iadd, 1) := by decide +kernel
theorem dX1_pack_162 : decode cX1_pack 162 = .ok (.iastore, 1) := by decide +kernel
theorem dX1_pack_163 : decode cX1_pack 163 = .ok (.iload_n 3, 1) := by decide +kernel
theorem dX1_pack_164 : decode cX1_pack 164 = .ok (.aload_n 1, 1) := by decide +kernel
theorem dX1_pack_165 : decode cX1_pack 165 = .ok (.getfield 54, 3) := by decide +kernel
theorem dX1_pack_168 : decode cX1_pack 168 = .ok (.iload 5, 2) := by decide +kernel
theorem dX1_pack_170 : decode cX1_pack 170 = .ok (.iaload, 1) := by decide +kernel
theorem dX1_pack_171 : decode cX1_pack 171 = .ok (.iadd, 1) := by decide +kernel
theorem dX1_pack_172 : decode cX1_pack 172 = .ok (.istore_n 3, 1) := by decide +kernel
theorem dX1_pack_173 : decode cX1_pack 173 = .ok (.iinc 4 1, 3) := by decide +kernel
theorem dX1_pack_176 : decode cX1_pack 176 = .ok (.goto (-166), 3) := by decide +kernel
theorem dX1_pack_179 : decode cX1_pack 179 = .ok (.return_, 1) := by decide +kernel
theorem dX1_meet_0 : decode cX1_meet 0 = .ok (.iconst 0, 1) := by decide +kernel
theorem dX1_meet_1 : decode cX1_meet 1 = .ok (.istore_n 1, 1) := by decide +kernel
theorem dX1_meet_2 : decode cX1_meet 2 = .ok (.iconst 0, 1) := by decide +kernel
theorem dX1_meet_3 : decode cX1_meet 3 = .ok (.istore_n 2, 1) := by decide +kernel
theorem dX1_meet_4 : decode cX1_meet 4 = .ok (.iload_n 2, 1) := by decide +kernel
theorem dX1_meet_5 : decode cX1_meet 5 = .ok (.aload_n 0, 1) := by decide +kernel
theorem dX1_meet_6 : decode cX1_meet 6 = .ok (.getfield 37, 3) := by decide +kernel
theorem dX1_meet_9 : decode cX1_meet 9 = .ok (.if_icmp .ge 23, 3) := by decide +kernel
theorem dX1_meet_12 : decode cX1_meet 12 = .ok (.iload_n 1, 1) := by decide +kernel
theorem dX1_meet_13 : decode cX1_meet 13 = .ok (.aload_n 0, 1) := by decide +kernel
theorem dX1_meet_14 : decode cX1_meet 14 = .ok (.getfield 9, 3) := by decide +kernel
theorem dX1_meet_17 : decode cX1_meet 17 = .ok (.aload_n 0, 1) := by decide +kernel
theorem dX1_meet_18 : decode cX1_meet 18 = .ok (.getfield 21, 3) := by decide +kernel
theorem dX1_meet_21 : decode cX1_meet 21 = .ok (.iload_n 2, 1) := by decide +kernel
theorem dX1_meet_22 : decode cX1_meet 22 = .ok (.iaload, 1) := by decide +kernel
theorem dX1_meet_23 : decode cX1_meet 23 = .ok (.iaload, 1) := by decide +kernel
theorem dX1_meet_24 : decode cX1_meet 24 = .ok (.iadd, 1) := by decide +kernel
theorem dX1_meet_25 : decode cX1_meet 25 = .ok (.istore_n 1, 1) := by decide +kernel
theorem dX1_meet_26 : decode cX1_meet 26 = .ok (.iinc 2 1, 3) := by decide +kernel
theorem dX1_meet_29 : decode cX1_meet 29 = .ok (.goto (-25), 3) := by decide +kernel
theorem dX1_meet_32 : decode cX1_meet 32 = .ok (.aload_n 0, 1) := by decide +kernel
theorem dX1_meet_33 : decode cX1_meet 33 = .ok (.iconst 0, 1) := by decide +kernel
theorem dX1_meet_34 : decode cX1_meet 34 = .ok (.putfield 40, 3) := by decide +kernel
theorem dX1_meet_37 : decode cX1_meet 37 = .ok (.aload_n 0, 1) := by decide +kernel
theorem dX1_meet_38 : decode cX1_meet 38 = .ok (.iload_n 1, 1) := by decide +kernel
theorem dX1_meet_39 : decode cX1_meet 39 = .ok (.putfield 43, 3) := by decide +kernel
theorem dX1_meet_42 : decode cX1_meet 42 = .ok (.iconst 0, 1) := by decide +kernel
theorem dX1_meet_43 : decode cX1_meet 43 = .ok (.istore_n 2, 1) := by decide +kernel
theorem dX1_meet_44 : decode cX1_meet 44 = .ok (.iconst 0, 1) := by decide +kernel
theorem dX1_meet_45 : decode cX1_meet 45 = .ok (.istore_n 3, 1) := by decide +kernel
theorem dX1_meet_46 : decode cX1_meet 46 = .ok (.iload_n 3, 1) := by decide +kernel
theorem dX1_meet_47 : decode cX1_meet 47 = .ok (.aload_n 0, 1) := by decide +kernel
theorem dX1_meet_48 : decode cX1_meet 48 = .ok (.getfield 37, 3) := by decide +kernel
theorem dX1_meet_51 : decode cX1_meet 51 = .ok (.if_icmp .ge 54, 3) := by decide +kernel
theorem dX1_meet_54 : decode cX1_meet 54 = .ok (.iload_n 2, 1) := by decide +kernel
theorem dX1_meet_55 : decode cX1_meet 55 = .ok (.aload_n 0, 1) := by decide +kernel
theorem dX1_meet_56 : decode cX1_meet 56 = .ok (.getfield 9, 3) := by decide +kernel
theorem dX1_meet_59 : decode cX1_meet 59 = .ok (.aload_n 0, 1) := by decide +kernel
theorem dX1_meet_60 : decode cX1_meet 60 = .ok (.getfield 21, 3) := by decide +kernel
theorem dX1_meet_63 : decode cX1_meet 63 = .ok (.iload_n 3, 1) := by decide +kernel
theorem dX1_meet_64 : decode cX1_meet 64 = .ok (.iaload, 1) := by decide +kernel
theorem dX1_meet_65 : decode cX1_meet 65 = .ok (.iaload, 1) := by decide +kernel
theorem dX1_meet_66 : decode cX1_meet 66 = .ok (.iadd, 1) := by decide +kernel
theorem dX1_meet_67 : decode cX1_meet 67 = .ok (.istore_n 2, 1) := by decide +kernel
theorem dX1_meet_68 : decode cX1_meet 68 = .ok (.iload_n 2, 1) := by decide +kernel
theorem dX1_meet_69 : decode cX1_meet 69 = .ok (.iload_n 1, 1) := by decide +kernel
theorem dX1_meet_70 : decode cX1_meet 70 = .ok (.iload_n 2, 1) := by decide +kernel
theorem dX1_meet_71 : decode cX1_meet 71 = .ok (.isub, 1) := by decide +kernel
theorem dX1_meet_72 : decode cX1_meet 72 = .ok (.invokestatic 57, 3) := by decide +kernel
theorem dX1_meet_75 : decode cX1_meet 75 = .ok (.istore 4, 2) := by decide +kernel
theorem dX1_meet_77 : decode cX1_meet 77 = .ok (.iload 4, 2) := by decide +kernel
theorem dX1_meet_79 : decode cX1_meet 79 = .ok (.aload_n 0, 1) := by decide +kernel
theorem dX1_meet_80 : decode cX1_meet 80 = .ok (.getfield 43, 3) := by decide +kernel
theorem dX1_meet_83 : decode cX1_meet 83 = .ok (.if_icmp .ge 16, 3) := by decide +kernel
theorem dX1_meet_86 : decode cX1_meet 86 = .ok (.aload_n 0, 1) := by decide +kernel
theorem dX1_meet_87 : decode cX1_meet 87 = .ok (.iload_n 3, 1) := by decide +kernel
theorem dX1_meet_88 : decode cX1_meet 88 = .ok (.iconst 1, 1) := by decide +kernel
theorem dX1_meet_89 : decode cX1_meet 89 = .ok (.iadd, 1) := by decide +kernel
theorem dX1_meet_90 : decode cX1_meet 90 = .ok (.putfield 40, 3) := by decide +kernel
theorem dX1_meet_93 : decode cX1_meet 93 = .ok (.aload_n 0, 1) := by decide +kernel
theorem dX1_meet_94 : decode cX1_meet 94 = .ok (.iload 4, 2) := by decide +kernel
theorem dX1_meet_96 : decode cX1_meet 96 = .ok (.putfield 43, 3) := by decide +kernel
theorem dX1_meet_99 : decode cX1_meet 99 = .ok (.iinc 3 1, 3) := by decide +kernel
theorem dX1_meet_102 : decode cX1_meet 102 = .ok (.goto (-56), 3) := by decide +kernel
theorem dX1_meet_105 : decode cX1_meet 105 = .ok (.aload_n 0, 1) := by decide +kernel
theorem dX1_meet_106 : decode cX1_meet 106 = .ok (.invokevirtual 63, 3) := by decide +kernel
theorem dX1_meet_109 : decode cX1_meet 109 = .ok (.return_, 1) := by decide +kernel
theorem dX1_stageOf_0 : decode cX1_stageOf 0 = .ok (.aload_n 0, 1) := by decide +kernel
theorem dX1_stageOf_1 : decode cX1_stageOf 1 = .ok (.getfield 30, 3) := by decide +kernel
theorem dX1_stageOf_4 : decode cX1_stageOf 4 = .ok (.iload_n 1, 1) := by decide +kernel
theorem dX1_stageOf_5 : decode cX1_stageOf 5 = .ok (.iaload, 1) := by decide +kernel
theorem dX1_stageOf_6 : decode cX1_stageOf 6 = .ok (.istore_n 3, 1) := by decide +kernel
theorem dX1_stageOf_7 : decode cX1_stageOf 7 = .ok (.iload_n 2, 1) := by decide +kernel
theorem dX1_stageOf_8 : decode cX1_stageOf 8 = .ok (.aload_n 0, 1) := by decide +kernel
theorem dX1_stageOf_9 : decode cX1_stageOf 9 = .ok (.getfield 24, 3) := by decide +kernel
theorem dX1_stageOf_12 : decode cX1_stageOf 12 = .ok (.iload_n 3, 1) := by decide +kernel
theorem dX1_stageOf_13 : decode cX1_stageOf 13 = .ok (.iaload, 1) := by decide +kernel
theorem dX1_stageOf_14 : decode cX1_stageOf 14 = .ok (.if_icmp .ge 5, 3) := by decide +kernel
theorem dX1_stageOf_17 : decode cX1_stageOf 17 = .ok (.iconst 0, 1) := by decide +kernel
theorem dX1_stageOf_18 : decode cX1_stageOf 18 = .ok (.ireturn, 1) := by decide +kernel
theorem dX1_stageOf_19 : decode cX1_stageOf 19 = .ok (.iload_n 2, 1) := by decide +kernel
theorem dX1_stageOf_20 : decode cX1_stageOf 20 = .ok (.aload_n 0, 1) := by decide +kernel
theorem dX1_stageOf_21 : decode cX1_stageOf 21 = .ok (.getfield 27, 3) := by decide +kernel
theorem dX1_stageOf_24 : decode cX1_stageOf 24 = .ok (.iload_n 3, 1) := by decide +kernel
theorem dX1_stageOf_25 : decode cX1_stageOf 25 = .ok (.iaload, 1) := by decide +kernel
theorem dX1_stageOf_26 : decode cX1_stageOf 26 = .ok (.if_icmp .ge 7, 3) := by decide +kernel
theorem dX1_stageOf_29 : decode cX1_stageOf 29 = .ok (.iconst 1, 1) := by decide +kernel
theorem dX1_stageOf_30 : decode cX1_stageOf 30 = .ok (.goto 4, 3) := by decide +kernel
theorem dX1_stageOf_33 : decode cX1_stageOf 33 = .ok (.iconst 2, 1) := by decide +kernel
theorem dX1_stageOf_34 : decode cX1_stageOf 34 = .ok (.ireturn, 1) := by decide +kernel
theorem dX1_readerHas_0 : decode cX1_readerHas 0 = .ok (.aload_n 0, 1) := by decide +kernel
theorem dX1_readerHas_1 : decode cX1_readerHas 1 = .ok (.getfield 30, 3) := by decide +kernel
theorem dX1_readerHas_4 : decode cX1_readerHas 4 = .ok (.iload_n 1, 1) := by decide +kernel
theorem dX1_readerHas_5 : decode cX1_readerHas 5 = .ok (.iaload, 1) := by decide +kernel
theorem dX1_readerHas_6 : decode cX1_readerHas 6 = .ok (.istore_n 3, 1) := by decide +kernel
theorem dX1_readerHas_7 : decode cX1_readerHas 7 = .ok (.iload_n 2, 1) := by decide +kernel
theorem dX1_readerHas_8 : decode cX1_readerHas 8 = .ok (.aload_n 0, 1) := by decide +kernel
theorem dX1_readerHas_9 : decode cX1_readerHas 9 = .ok (.getfield 27, 3) := by decide +kernel
theorem dX1_readerHas_12 : decode cX1_readerHas 12 = .ok (.iload_n 3, 1) := by decide +kernel
theorem dX1_readerHas_13 : decode cX1_readerHas 13 = .ok (.iaload, 1) := by decide +kernel
theorem dX1_readerHas_14 : decode cX1_readerHas 14 = .ok (.if_icmp .lt 5, 3) := by decide +kernel
theorem dX1_readerHas_17 : decode cX1_readerHas 17 = .ok (.iload_n 2, 1) := by decide +kernel
theorem dX1_readerHas_18 : decode cX1_readerHas 18 = .ok (.ireturn, 1) := by decide +kernel
theorem dX1_readerHas_19 : decode cX1_readerHas 19 = .ok (.iload_n 2, 1) := by decide +kernel
theorem dX1_readerHas_20 : decode cX1_readerHas 20 = .ok (.aload_n 0, 1) := by decide +kernel
theorem dX1_readerHas_21 : decode cX1_readerHas 21 = .ok (.getfield 9, 3) := by decide +kernel
theorem dX1_readerHas_24 : decode cX1_readerHas 24 = .ok (.aload_n 0, 1) := by decide +kernel
theorem dX1_readerHas_25 : decode cX1_readerHas 25 = .ok (.getfield 21, 3) := by decide +kernel
theorem dX1_readerHas_28 : decode cX1_readerHas 28 = .ok (.iload_n 3, 1) := by decide +kernel
theorem dX1_readerHas_29 : decode cX1_readerHas 29 = .ok (.iaload, 1) := by decide +kernel
theorem dX1_readerHas_30 : decode cX1_readerHas 30 = .ok (.iaload, 1) := by decide +kernel
theorem dX1_readerHas_31 : decode cX1_readerHas 31 = .ok (.iadd, 1) := by decide +kernel
theorem dX1_readerHas_32 : decode cX1_readerHas 32 = .ok (.istore 4, 2) := by decide +kernel
theorem dX1_readerHas_34 : decode cX1_readerHas 34 = .ok (.iload 4, 2) := by decide +kernel
theorem dX1_readerHas_36 : decode cX1_readerHas 36 = .ok (.aload_n 0, 1) := by decide +kernel
theorem dX1_readerHas_37 : decode cX1_readerHas 37 = .ok (.getfield 24, 3) := by decide +kernel
theorem dX1_readerHas_40 : decode cX1_readerHas 40 = .ok (.iload_n 3, 1) := by decide +kernel
theorem dX1_readerHas_41 : decode cX1_readerHas 41 = .ok (.iaload, 1) := by decide +kernel
theorem dX1_readerHas_42 : decode cX1_readerHas 42 = .ok (.if_icmp .gt 8, 3) := by decide +kernel
theorem dX1_readerHas_45 : decode cX1_readerHas 45 = .ok (.iload 4, 2) := by decide +kernel
theorem dX1_readerHas_47 : decode cX1_readerHas 47 = .ok (.goto 9, 3) := by decide +kernel
theorem dX1_readerHas_50 : decode cX1_readerHas 50 = .ok (.aload_n 0, 1) := by decide +kernel
theorem dX1_readerHas_51 : decode cX1_readerHas 51 = .ok (.getfield 27, 3) := by decide +kernel
theorem dX1_readerHas_54 : decode cX1_readerHas 54 = .ok (.iload_n 3, 1) := by decide +kernel
theorem dX1_readerHas_55 : decode cX1_readerHas 55 = .ok (.iaload, 1) := by decide +kernel
theorem dX1_readerHas_56 : decode cX1_readerHas 56 = .ok (.ireturn, 1) := by decide +kernel
theorem dX1_setMinutes_0 : decode cX1_setMinutes 0 = .ok (.iconst 0, 1) := by decide +kernel
theorem dX1_setMinutes_1 : decode cX1_setMinutes 1 = .ok (.istore_n 1, 1) := by decide +kernel
theorem dX1_setMinutes_2 : decode cX1_setMinutes 2 = .ok (.iconst 0, 1) := by decide +kernel
theorem dX1_setMinutes_3 : decode cX1_setMinutes 3 = .ok (.istore_n 2, 1) := by decide +kernel
theorem dX1_setMinutes_4 : decode cX1_setMinutes 4 = .ok (.iload_n 2, 1) := by decide +kernel
theorem dX1_setMinutes_5 : decode cX1_setMinutes 5 = .ok (.aload_n 0, 1) := by decide +kernel
theorem dX1_setMinutes_6 : decode cX1_setMinutes 6 = .ok (.getfield 40, 3) := by decide +kernel
theorem dX1_setMinutes_9 : decode cX1_setMinutes 9 = .ok (.if_icmp .ge 16, 3) := by decide +kernel
theorem dX1_setMinutes_12 : decode cX1_setMinutes 12 = .ok (.aload_n 0, 1) := by decide +kernel
theorem dX1_setMinutes_13 : decode cX1_setMinutes 13 = .ok (.iload_n 1, 1) := by decide +kernel
theorem dX1_setMinutes_14 : decode cX1_setMinutes 14 = .ok (.iload_n 2, 1) := by decide +kernel
theorem dX1_setMinutes_15 : decode cX1_setMinutes 15 = .ok (.invokevirtual 66, 3) := by decide +kernel
theorem dX1_setMinutes_18 : decode cX1_setMinutes 18 = .ok (.istore_n 1, 1) := by decide +kernel
theorem dX1_setMinutes_19 : decode cX1_setMinutes 19 = .ok (.iinc 2 1, 3) := by decide +kernel
theorem dX1_setMinutes_22 : decode cX1_setMinutes 22 = .ok (.goto (-18), 3) := by decide +kernel
theorem dX1_setMinutes_25 : decode cX1_setMinutes 25 = .ok (.iconst 0, 1) := by decide +kernel
theorem dX1_setMinutes_26 : decode cX1_setMinutes 26 = .ok (.istore_n 1, 1) := by decide +kernel
theorem dX1_setMinutes_27 : decode cX1_setMinutes 27 = .ok (.aload_n 0, 1) := by decide +kernel
theorem dX1_setMinutes_28 : decode cX1_setMinutes 28 = .ok (.getfield 37, 3) := by decide +kernel
theorem dX1_setMinutes_31 : decode cX1_setMinutes 31 = .ok (.iconst 1, 1) := by decide +kernel
theorem dX1_setMinutes_32 : decode cX1_setMinutes 32 = .ok (.isub, 1) := by decide +kernel
theorem dX1_setMinutes_33 : decode cX1_setMinutes 33 = .ok (.istore_n 2, 1) := by decide +kernel
theorem dX1_setMinutes_34 : decode cX1_setMinutes 34 = .ok (.iload_n 2, 1) := by decide +kernel
theorem dX1_setMinutes_35 : decode cX1_setMinutes 35 = .ok (.aload_n 0, 1) := by decide +kernel
theorem dX1_setMinutes_36 : decode cX1_setMinutes 36 = .ok (.getfield 40, 3) := by decide +kernel
theorem dX1_setMinutes_39 : decode cX1_setMinutes 39 = .ok (.if_icmp .lt 16, 3) := by decide +kernel
theorem dX1_setMinutes_42 : decode cX1_setMinutes 42 = .ok (.aload_n 0, 1) := by decide +kernel
theorem dX1_setMinutes_43 : decode cX1_setMinutes 43 = .ok (.iload_n 1, 1) := by decide +kernel
theorem dX1_setMinutes_44 : decode cX1_setMinutes 44 = .ok (.iload_n 2, 1) := by decide +kernel
theorem dX1_setMinutes_45 : decode cX1_setMinutes 45 = .ok (.invokevirtual 66, 3) := by decide +kernel
theorem dX1_setMinutes_48 : decode cX1_setMinutes 48 = .ok (.istore_n 1, 1) := by decide +kernel
theorem dX1_setMinutes_49 : decode cX1_setMinutes 49 = .ok (.iinc 2 (-1), 3) := by decide +kernel
theorem dX1_setMinutes_52 : decode cX1_setMinutes 52 = .ok (.goto (-18), 3) := by decide +kernel
theorem dX1_setMinutes_55 : decode cX1_setMinutes 55 = .ok (.return_, 1) := by decide +kernel
theorem dX1_carryFrom_0 : decode cX1_carryFrom 0 = .ok (.aload_n 0, 1) := by decide +kernel
theorem dX1_carryFrom_1 : decode cX1_carryFrom 1 = .ok (.getfield 24, 3) := by decide +kernel
theorem dX1_carryFrom_4 : decode cX1_carryFrom 4 = .ok (.iload_n 2, 1) := by decide +kernel
theorem dX1_carryFrom_5 : decode cX1_carryFrom 5 = .ok (.iload_n 1, 1) := by decide +kernel
theorem dX1_carryFrom_6 : decode cX1_carryFrom 6 = .ok (.iastore, 1) := by decide +kernel
theorem dX1_carryFrom_7 : decode cX1_carryFrom 7 = .ok (.aload_n 0, 1) := by decide +kernel
theorem dX1_carryFrom_8 : decode cX1_carryFrom 8 = .ok (.getfield 27, 3) := by decide +kernel
theorem dX1_carryFrom_11 : decode cX1_carryFrom 11 = .ok (.iload_n 2, 1) := by decide +kernel
theorem dX1_carryFrom_12 : decode cX1_carryFrom 12 = .ok (.iload_n 1, 1) := by decide +kernel
theorem dX1_carryFrom_13 : decode cX1_carryFrom 13 = .ok (.aload_n 0, 1) := by decide +kernel
theorem dX1_carryFrom_14 : decode cX1_carryFrom 14 = .ok (.getfield 9, 3) := by decide +kernel
theorem dX1_carryFrom_17 : decode cX1_carryFrom 17 = .ok (.aload_n 0, 1) := by decide +kernel
theorem dX1_carryFrom_18 : decode cX1_carryFrom 18 = .ok (.getfield 21, 3) := by decide +kernel
theorem dX1_carryFrom_21 : decode cX1_carryFrom 21 = .ok (.iload_n 2, 1) := by decide +kernel
theorem dX1_carryFrom_22 : decode cX1_carryFrom 22 = .ok (.iaload, 1) := by decide +kernel
theorem dX1_carryFrom_23 : decode cX1_carryFrom 23 = .ok (.iaload, 1) := by decide +kernel
theorem dX1_carryFrom_24 : decode cX1_carryFrom 24 = .ok (.iadd, 1) := by decide +kernel
theorem dX1_carryFrom_25 : decode cX1_carryFrom 25 = .ok (.iastore, 1) := by decide +kernel
theorem dX1_carryFrom_26 : decode cX1_carryFrom 26 = .ok (.aload_n 0, 1) := by decide +kernel
theorem dX1_carryFrom_27 : decode cX1_carryFrom 27 = .ok (.getfield 27, 3) := by decide +kernel
theorem dX1_carryFrom_30 : decode cX1_carryFrom 30 = .ok (.iload_n 2, 1) := by decide +kernel
theorem dX1_carryFrom_31 : decode cX1_carryFrom 31 = .ok (.iaload, 1) := by decide +kernel
theorem dX1_carryFrom_32 : decode cX1_carryFrom 32 = .ok (.ireturn, 1) := by decide +kernel
theorem dX2_init_0 : decode cX2_init 0 = .ok (.aload_n 0, 1) := by decide +kernel
theorem dX2_init_1 : decode cX2_init 1 = .ok (.invokespecial 3, 3) := by decide +kernel
theorem dX2_init_4 : decode cX2_init 4 = .ok (.aload_n 0, 1) := by decide +kernel
theorem dX2_init_5 : decode cX2_init 5 = .ok (.iconst (-1), 1) := by decide +kernel
theorem dX2_init_6 : decode cX2_init 6 = .ok (.putfield 9, 3) := by decide +kernel
theorem dX2_init_9 : decode cX2_init 9 = .ok (.return_, 1) := by decide +kernel
theorem dX2_read_0 : decode cX2_read 0 = .ok (.aload_n 0, 1) := by decide +kernel
theorem dX2_read_1 : decode cX2_read 1 = .ok (.iconst 0, 1) := by decide +kernel
theorem dX2_read_2 : decode cX2_read 2 = .ok (.putfield 15, 3) := by decide +kernel
theorem dX2_read_5 : decode cX2_read 5 = .ok (.aload_n 0, 1) := by decide +kernel
theorem dX2_read_6 : decode cX2_read 6 = .ok (.iconst 0, 1) := by decide +kernel
theorem dX2_read_7 : decode cX2_read 7 = .ok (.putfield 18, 3) := by decide +kernel
theorem dX2_read_10 : decode cX2_read 10 = .ok (.aload_n 0, 1) := by decide +kernel
theorem dX2_read_11 : decode cX2_read 11 = .ok (.iconst 0, 1) := by decide +kernel
theorem dX2_read_12 : decode cX2_read 12 = .ok (.putfield 21, 3) := by decide +kernel
theorem dX2_read_15 : decode cX2_read 15 = .ok (.aload_n 1, 1) := by decide +kernel
theorem dX2_read_16 : decode cX2_read 16 = .ok (.iconst 0, 1) := by decide +kernel
theorem dX2_read_17 : decode cX2_read 17 = .ok (.invokestatic 24, 3) := by decide +kernel
theorem dX2_read_20 : decode cX2_read 20 = .ok (.istore_n 2, 1) := by decide +kernel
theorem dX2_read_21 : decode cX2_read 21 = .ok (.iload_n 2, 1) := by decide +kernel
theorem dX2_read_22 : decode cX2_read 22 = .ok (.ifCond .ne 9, 3) := by decide +kernel
theorem dX2_read_25 : decode cX2_read 25 = .ok (.aload_n 0, 1) := by decide +kernel
theorem dX2_read_26 : decode cX2_read 26 = .ok (.iconst 0, 1) := by decide +kernel
theorem dX2_read_27 : decode cX2_read 27 = .ok (.putfield 9, 3) := by decide +kernel
theorem dX2_read_30 : decode cX2_read 30 = .ok (.return_, 1) := by decide +kernel
theorem dX2_read_31 : decode cX2_read 31 = .ok (.aload_n 0, 1) := by decide +kernel
theorem dX2_read_32 : decode cX2_read 32 = .ok (.aload_n 1, 1) := by decide +kernel
theorem dX2_read_33 : decode cX2_read 33 = .ok (.iconst 0, 1) := by decide +kernel
theorem dX2_read_34 : decode cX2_read 34 = .ok (.iload_n 2, 1) := by decide +kernel
theorem dX2_read_35 : decode cX2_read 35 = .ok (.invokestatic 28, 3) := by decide +kernel
theorem dX2_read_38 : decode cX2_read 38 = .ok (.putfield 32, 3) := by decide +kernel
theorem dX2_read_41 : decode cX2_read 41 = .ok (.aload_n 1, 1) := by decide +kernel
theorem dX2_read_42 : decode cX2_read 42 = .ok (.iload_n 2, 1) := by decide +kernel
theorem dX2_read_43 : decode cX2_read 43 = .ok (.invokevirtual 35, 3) := by decide +kernel
theorem dX2_read_46 : decode cX2_read 46 = .ok (.bipush 46, 2) := by decide +kernel
theorem dX2_read_48 : decode cX2_read 48 = .ok (.if_icmp .ne 31, 3) := by decide +kernel
theorem dX2_read_51 : decode cX2_read 51 = .ok (.iload_n 2, 1) := by decide +kernel
theorem dX2_read_52 : decode cX2_read 52 = .ok (.iconst 1, 1) := by decide +kernel
theorem dX2_read_53 : decode cX2_read 53 = .ok (.iadd, 1) := by decide +kernel
theorem dX2_read_54 : decode cX2_read 54 = .ok (.istore_n 3, 1) := by decide +kernel
theorem dX2_read_55 : decode cX2_read 55 = .ok (.aload_n 1, 1) := by decide +kernel
theorem dX2_read_56 : decode cX2_read 56 = .ok (.iload_n 3, 1) := by decide +kernel
theorem dX2_read_57 : decode cX2_read 57 = .ok (.invokestatic 24, 3) := by decide +kernel
theorem dX2_read_60 : decode cX2_read 60 = .ok (.istore_n 2, 1) := by decide +kernel
theorem dX2_read_61 : decode cX2_read 61 = .ok (.iload_n 2, 1) := by decide +kernel
theorem dX2_read_62 : decode cX2_read 62 = .ok (.iload_n 3, 1) := by decide +kernel
theorem dX2_read_63 : decode cX2_read 63 = .ok (.if_icmp .ne 9, 3) := by decide +kernel
theorem dX2_read_66 : decode cX2_read 66 = .ok (.aload_n 0, 1) := by decide +kernel
theorem dX2_read_67 : decode cX2_read 67 = .ok (.iload_n 3, 1) := by decide +kernel
theorem dX2_read_68 : decode cX2_read 68 = .ok (.putfield 9, 3) := by decide +kernel
theorem dX2_read_71 : decode cX2_read 71 = .ok (.return_, 1) := by decide +kernel
theorem dX2_read_72 : decode cX2_read 72 = .ok (.aload_n 0, 1) := by decide +kernel
theorem dX2_read_73 : decode cX2_read 73 = .ok (.aload_n 1, 1) := by decide +kernel
theorem dX2_read_74 : decode cX2_read 74 = .ok (.iload_n 3, 1) := by decide +kernel
theorem dX2_read_75 : decode cX2_read 75 = .ok (.iload_n 2, 1) := by decide +kernel
theorem dX2_read_76 : decode cX2_read 76 = .ok (.invokevirtual 41, 3) := by decide +kernel
theorem dX2_read_79 : decode cX2_read 79 = .ok (.aload_n 1, 1) := by decide +kernel
theorem dX2_read_80 : decode cX2_read 80 = .ok (.iload_n 2, 1) := by decide +kernel
theorem dX2_read_81 : decode cX2_read 81 = .ok (.invokestatic 45, 3) := by decide +kernel
theorem dX2_read_84 : decode cX2_read 84 = .ok (.istore_n 3, 1) := by decide +kernel
theorem dX2_read_85 : decode cX2_read 85 = .ok (.aload_n 0, 1) := by decide +kernel
theorem dX2_read_86 : decode cX2_read 86 = .ok (.aload_n 1, 1) := by decide +kernel
theorem dX2_read_87 : decode cX2_read 87 = .ok (.iload_n 2, 1) := by decide +kernel
theorem dX2_read_88 : decode cX2_read 88 = .ok (.iload_n 3, 1) := by decide +kernel
theorem dX2_read_89 : decode cX2_read 89 = .ok (.invokevirtual 48, 3) := by decide +kernel
theorem dX2_read_92 : decode cX2_read 92 = .ok (.aload_n 0, 1) := by decide +kernel
theorem dX2_read_93 : decode cX2_read 93 = .ok (.iload_n 3, 1) := by decide +kernel
theorem dX2_read_94 : decode cX2_read 94 = .ok (.aload_n 1, 1) := by decide +kernel
theorem dX2_read_95 : decode cX2_read 95 = .ok (.getfield 51, 3) := by decide +kernel
theorem dX2_read_98 : decode cX2_read 98 = .ok (.if_icmp .ge 7, 3) := by decide +kernel
theorem dX2_read_101 : decode cX2_read 101 = .ok (.iload_n 3, 1) := by decide +kernel
theorem dX2_read_102 : decode cX2_read 102 = .ok (.goto 4, 3) := by decide +kernel
theorem dX2_read_105 : decode cX2_read 105 = .ok (.iconst (-1), 1) := by decide +kernel
theorem dX2_read_106 : decode cX2_read 106 = .ok (.putfield 9, 3) := by decide +kernel
theorem dX2_read_109 : decode cX2_read 109 = .ok (.return_, 1) := by decide +kernel
theorem dX2_keyBy_0 : decode cX2_keyBy 0 = .ok (.iload_n 1, 1) := by decide +kernel
theorem dX2_keyBy_1 : decode cX2_keyBy 1 = .ok (.ifCond .ne 10, 3) := by decide +kernel
theorem dX2_keyBy_4 : decode cX2_keyBy 4 = .ok (.aload_n 0, 1) := by decide +kernel
theorem dX2_keyBy_5 : decode cX2_keyBy 5 = .ok (.getfield 21, 3) := by decide +kernel
theorem dX2_keyBy_8 : decode cX2_keyBy 8 = .ok (.goto 14, 3) := by decide +kernel
theorem dX2_keyBy_11 : decode cX2_keyBy 11 = .ok (.aload_n 0, 1) := by decide +kernel
theorem dX2_keyBy_12 : decode cX2_keyBy 12 = .ok (.getfield 15, 3) := by decide +kernel
theorem dX2_keyBy_15 : decode cX2_keyBy 15 = .ok (.iconst 5, 1) := by decide +kernel
theorem dX2_keyBy_16 : decode cX2_keyBy 16 = .ok (.imul, 1) := by decide +kernel
theorem dX2_keyBy_17 : decode cX2_keyBy 17 = .ok (.aload_n 0, 1) := by decide +kernel
theorem dX2_keyBy_18 : decode cX2_keyBy 18 = .ok (.getfield 18, 3) := by decide +kernel
theorem dX2_keyBy_21 : decode cX2_keyBy 21 = .ok (.iadd, 1) := by decide +kernel
theorem dX2_keyBy_22 : decode cX2_keyBy 22 = .ok (.istore_n 2, 1) := by decide +kernel
theorem dX2_keyBy_23 : decode cX2_keyBy 23 = .ok (.aload_n 0, 1) := by decide +kernel
theorem dX2_keyBy_24 : decode cX2_keyBy 24 = .ok (.getfield 32, 3) := by decide +kernel
theorem dX2_keyBy_27 : decode cX2_keyBy 27 = .ok (.i2l, 1) := by decide +kernel
theorem dX2_keyBy_28 : decode cX2_keyBy 28 = .ok (.ldc2_w 54, 3) := by decide +kernel
theorem dX2_keyBy_31 : decode cX2_keyBy 31 = .ok (.lmul, 1) := by decide +kernel
theorem dX2_keyBy_32 : decode cX2_keyBy 32 = .ok (.iload_n 2, 1) := by decide +kernel
theorem dX2_keyBy_33 : decode cX2_keyBy 33 = .ok (.i2l, 1) := by decide +kernel
theorem dX2_keyBy_34 : decode cX2_keyBy 34 = .ok (.ladd, 1) := by decide +kernel
theorem dX2_keyBy_35 : decode cX2_keyBy 35 = .ok (.ldc2_w 56, 3) := by decide +kernel
theorem dX2_keyBy_38 : decode cX2_keyBy 38 = .ok (.lmul, 1) := by decide +kernel
theorem dX2_keyBy_39 : decode cX2_keyBy 39 = .ok (.aload_n 0, 1) := by decide +kernel
theorem dX2_keyBy_40 : decode cX2_keyBy 40 = .ok (.getfield 58, 3) := by decide +kernel
theorem dX2_keyBy_43 : decode cX2_keyBy 43 = .ok (.i2l, 1) := by decide +kernel
theorem dX2_keyBy_44 : decode cX2_keyBy 44 = .ok (.ladd, 1) := by decide +kernel
theorem dX2_keyBy_45 : decode cX2_keyBy 45 = .ok (.lreturn, 1) := by decide +kernel
theorem dX2_readBehind_0 : decode cX2_readBehind 0 = .ok (.aload_n 0, 1) := by decide +kernel
theorem dX2_readBehind_1 : decode cX2_readBehind 1 = .ok (.aload_n 1, 1) := by decide +kernel
theorem dX2_readBehind_2 : decode cX2_readBehind 2 = .ok (.iload_n 2, 1) := by decide +kernel
theorem dX2_readBehind_3 : decode cX2_readBehind 3 = .ok (.iload_n 3, 1) := by decide +kernel
theorem dX2_readBehind_4 : decode cX2_readBehind 4 = .ok (.invokestatic 28, 3) := by decide +kernel
theorem dX2_readBehind_7 : decode cX2_readBehind 7 = .ok (.putfield 15, 3) := by decide +kernel
theorem dX2_readBehind_10 : decode cX2_readBehind 10 = .ok (.aload_n 0, 1) := by decide +kernel
theorem dX2_readBehind_11 : decode cX2_readBehind 11 = .ok (.iload_n 3, 1) := by decide +kernel
theorem dX2_readBehind_12 : decode cX2_readBehind 12 = .ok (.iload_n 2, 1) := by decide +kernel
theorem dX2_readBehind_13 : decode cX2_readBehind 13 = .ok (.isub, 1) := by decide +kernel
theorem dX2_readBehind_14 : decode cX2_readBehind 14 = .ok (.putfield 18, 3) := by decide +kernel
theorem dX2_readBehind_17 : decode cX2_readBehind 17 = .ok (.iload_n 2, 1) := by decide +kernel
theorem dX2_readBehind_18 : decode cX2_readBehind 18 = .ok (.istore 4, 2) := by decide +kernel
theorem dX2_readBehind_20 : decode cX2_readBehind 20 = .ok (.iload 4, 2) := by decide +kernel
theorem dX2_readBehind_22 : decode cX2_readBehind 22 = .ok (.iload_n 2, 1) := by decide +kernel
theorem dX2_readBehind_23 : decode cX2_readBehind 23 = .ok (.iconst 4, 1) := by decide +kernel
theorem dX2_readBehind_24 : decode cX2_readBehind 24 = .ok (.iadd, 1) := by decide +kernel
theorem dX2_readBehind_25 : decode cX2_readBehind 25 = .ok (.if_icmp .ge 42, 3) := by decide +kernel
theorem dX2_readBehind_28 : decode cX2_readBehind 28 = .ok (.aload_n 0, 1) := by decide +kernel
theorem dX2_readBehind_29 : decode cX2_readBehind 29 = .ok (.aload_n 0, 1) := by decide +kernel
theorem dX2_readBehind_30 : decode cX2_readBehind 30 = .ok (.getfield 21, 3) := by decide +kernel
theorem dX2_readBehind_33 : decode cX2_readBehind 33 = .ok (.bipush 11, 2) := by decide +kernel
theorem dX2_readBehind_35 : decode cX2_readBehind 35 = .ok (.imul, 1) := by decide +kernel
theorem dX2_readBehind_36 : decode cX2_readBehind 36 = .ok (.iload 4, 2) := by decide +kernel
theorem dX2_readBehind_38 : decode cX2_readBehind 38 = .ok (.iload_n 3, 1) := by decide +kernel
theorem dX2_readBehind_39 : decode cX2_readBehind 39 = .ok (.if_icmp .ge 17, 3) := by decide +kernel
theorem dX2_readBehind_42 : decode cX2_readBehind 42 = .ok (.aload_n 1, 1) := by decide +kernel
theorem dX2_readBehind_43 : decode cX2_readBehind 43 = .ok (.iload 4, 2) := by decide +kernel
theorem dX2_readBehind_45 : decode cX2_readBehind 45 = .ok (.invokevirtual 35, 3) := by decide +kernel
theorem dX2_readBehind_48 : decode cX2_readBehind 48 = .ok (.bipush 48, 2) := by decide +kernel
theorem dX2_readBehind_50 : decode cX2_readBehind 50 = .ok (.isub, 1) := by decide +kernel
theorem dX2_readBehind_51 : decode cX2_readBehind 51 = .ok (.iconst 1, 1) := by decide +kernel
theorem dX2_readBehind_52 : decode cX2_readBehind 52 = .ok (.iadd, 1) := by decide +kernel
theorem dX2_readBehind_53 : decode cX2_readBehind 53 = .ok (.goto 4, 3) := by decide +kernel
theorem dX2_readBehind_56 : decode cX2_readBehind 56 = .ok (.iconst 0, 1) := by decide +kernel
theorem dX2_readBehind_57 : decode cX2_readBehind 57 = .ok (.iadd, 1) := by decide +kernel
theorem dX2_readBehind_58 : decode cX2_readBehind 58 = .ok (.putfield 21, 3) := by decide +kernel
theorem dX2_readBehind_61 : decode cX2_readBehind 61 = .ok (.iinc 4 1, 3) := by decide +kernel
theorem dX2_readBehind_64 : decode cX2_readBehind 64 = .ok (.goto (-44), 3) := by decide +kernel
theorem dX2_readBehind_67 : decode cX2_readBehind 67 = .ok (.return_, 1) := by decide +kernel
theorem dX2_readLetters_0 : decode cX2_readLetters 0 = .ok (.aload_n 0, 1) := by decide +kernel
theorem dX2_readLetters_1 : decode cX2_readLetters 1 = .ok (.iconst 0, 1) := by decide +kernel
theorem dX2_readLetters_2 : decode cX2_readLetters 2 = .ok (.putfield 58, 3) := by decide +kernel
theorem dX2_readLetters_5 : decode cX2_readLetters 5 = .ok (.iload_n 2, 1) := by decide +kernel
theorem dX2_readLetters_6 : decode cX2_readLetters 6 = .ok (.istore 4, 2) := by decide +kernel
theorem dX2_readLetters_8 : decode cX2_readLetters 8 = .ok (.iload 4, 2) := by decide +kernel
theorem dX2_readLetters_10 : decode cX2_readLetters 10 = .ok (.iload_n 2, 1) := by decide +kernel
theorem dX2_readLetters_11 : decode cX2_readLetters 11 = .ok (.iconst 3, 1) := by decide +kernel
theorem dX2_readLetters_12 : decode cX2_readLetters 12 = .ok (.iadd, 1) := by decide +kernel
theorem dX2_readLetters_13 : decode cX2_readLetters 13 = .ok (.if_icmp .ge 42, 3) := by decide +kernel
theorem dX2_readLetters_16 : decode cX2_readLetters 16 = .ok (.aload_n 0, 1) := by decide +kernel
theorem dX2_readLetters_17 : decode cX2_readLetters 17 = .ok (.aload_n 0, 1) := by decide +kernel
theorem dX2_readLetters_18 : decode cX2_readLetters 18 = .ok (.getfield 58, 3) := by decide +kernel
theorem dX2_readLetters_21 : decode cX2_readLetters 21 = .ok (.bipush 27, 2) := by decide +kernel
theorem dX2_readLetters_23 : decode cX2_readLetters 23 = .ok (.imul, 1) := by decide +kernel
theorem dX2_readLetters_24 : decode cX2_readLetters 24 = .ok (.iload 4, 2) := by decide +kernel
theorem dX2_readLetters_26 : decode cX2_readLetters 26 = .ok (.iload_n 3, 1) := by decide +kernel
theorem dX2_readLetters_27 : decode cX2_readLetters 27 = .ok (.if_icmp .ge 17, 3) := by decide +kernel
theorem dX2_readLetters_30 : decode cX2_readLetters 30 = .ok (.aload_n 1, 1) := by decide +kernel
theorem dX2_readLetters_31 : decode cX2_readLetters 31 = .ok (.iload 4, 2) := by decide +kernel
theorem dX2_readLetters_33 : decode cX2_readLetters 33 = .ok (.invokevirtual 35, 3) := by decide +kernel
theorem dX2_readLetters_36 : decode cX2_readLetters 36 = .ok (.bipush 97, 2) := by decide +kernel
theorem dX2_readLetters_38 : decode cX2_readLetters 38 = .ok (.isub, 1) := by decide +kernel
theorem dX2_readLetters_39 : decode cX2_readLetters 39 = .ok (.iconst 1, 1) := by decide +kernel
theorem dX2_readLetters_40 : decode cX2_readLetters 40 = .ok (.iadd, 1) := by decide +kernel
theorem dX2_readLetters_41 : decode cX2_readLetters 41 = .ok (.goto 4, 3) := by decide +kernel
theorem dX2_readLetters_44 : decode cX2_readLetters 44 = .ok (.iconst 0, 1) := by decide +kernel
theorem dX2_readLetters_45 : decode cX2_readLetters 45 = .ok (.iadd, 1) := by decide +kernel
theorem dX2_readLetters_46 : decode cX2_readLetters 46 = .ok (.putfield 58, 3) := by decide +kernel
theorem dX2_readLetters_49 : decode cX2_readLetters 49 = .ok (.iinc 4 1, 3) := by decide +kernel
theorem dX2_readLetters_52 : decode cX2_readLetters 52 = .ok (.goto (-44), 3) := by decide +kernel
theorem dX2_readLetters_55 : decode cX2_readLetters 55 = .ok (.return_, 1) := by decide +kernel
theorem dX2_pastDigits_0 : decode cX2_pastDigits 0 = .ok (.iload_n 1, 1) := by decide +kernel
theorem dX2_pastDigits_1 : decode cX2_pastDigits 1 = .ok (.istore_n 2, 1) := by decide +kernel
theorem dX2_pastDigits_2 : decode cX2_pastDigits 2 = .ok (.iload_n 2, 1) := by decide +kernel
theorem dX2_pastDigits_3 : decode cX2_pastDigits 3 = .ok (.iload_n 1, 1) := by decide +kernel
theorem dX2_pastDigits_4 : decode cX2_pastDigits 4 = .ok (.iconst 4, 1) := by decide +kernel
theorem dX2_pastDigits_5 : decode cX2_pastDigits 5 = .ok (.iadd, 1) := by decide +kernel
theorem dX2_pastDigits_6 : decode cX2_pastDigits 6 = .ok (.if_icmp .ge 17, 3) := by decide +kernel
theorem dX2_pastDigits_9 : decode cX2_pastDigits 9 = .ok (.aload_n 0, 1) := by decide +kernel
theorem dX2_pastDigits_10 : decode cX2_pastDigits 10 = .ok (.iload_n 2, 1) := by decide +kernel
theorem dX2_pastDigits_11 : decode cX2_pastDigits 11 = .ok (.invokevirtual 61, 3) := by decide +kernel
theorem dX2_pastDigits_14 : decode cX2_pastDigits 14 = .ok (.ifCond .eq 9, 3) := by decide +kernel
theorem dX2_pastDigits_17 : decode cX2_pastDigits 17 = .ok (.iinc 2 1, 3) := by decide +kernel
theorem dX2_pastDigits_20 : decode cX2_pastDigits 20 = .ok (.goto (-18), 3) := by decide +kernel
theorem dX2_pastDigits_23 : decode cX2_pastDigits 23 = .ok (.iload_n 2, 1) := by decide +kernel
theorem dX2_pastDigits_24 : decode cX2_pastDigits 24 = .ok (.ireturn, 1) := by decide +kernel
theorem dX2_pastLetters_0 : decode cX2_pastLetters 0 = .ok (.iload_n 1, 1) := by decide +kernel
theorem dX2_pastLetters_1 : decode cX2_pastLetters 1 = .ok (.istore_n 2, 1) := by decide +kernel
theorem dX2_pastLetters_2 : decode cX2_pastLetters 2 = .ok (.iload_n 2, 1) := by decide +kernel
theorem dX2_pastLetters_3 : decode cX2_pastLetters 3 = .ok (.iload_n 1, 1) := by decide +kernel
theorem dX2_pastLetters_4 : decode cX2_pastLetters 4 = .ok (.iconst 3, 1) := by decide +kernel
theorem dX2_pastLetters_5 : decode cX2_pastLetters 5 = .ok (.iadd, 1) := by decide +kernel
theorem dX2_pastLetters_6 : decode cX2_pastLetters 6 = .ok (.if_icmp .ge 17, 3) := by decide +kernel
theorem dX2_pastLetters_9 : decode cX2_pastLetters 9 = .ok (.aload_n 0, 1) := by decide +kernel
theorem dX2_pastLetters_10 : decode cX2_pastLetters 10 = .ok (.iload_n 2, 1) := by decide +kernel
theorem dX2_pastLetters_11 : decode cX2_pastLetters 11 = .ok (.invokevirtual 65, 3) := by decide +kernel
theorem dX2_pastLetters_14 : decode cX2_pastLetters 14 = .ok (.ifCond .eq 9, 3) := by decide +kernel
theorem dX2_pastLetters_17 : decode cX2_pastLetters 17 = .ok (.iinc 2 1, 3) := by decide +kernel
theorem dX2_pastLetters_20 : decode cX2_pastLetters 20 = .ok (.goto (-18), 3) := by decide +kernel
theorem dX2_pastLetters_23 : decode cX2_pastLetters 23 = .ok (.iload_n 2, 1) := by decide +kernel
theorem dX2_pastLetters_24 : decode cX2_pastLetters 24 = .ok (.ireturn, 1) := by decide +kernel
theorem dX2_valueOf_0 : decode cX2_valueOf 0 = .ok (.iconst 0, 1) := by decide +kernel
theorem dX2_valueOf_1 : decode cX2_valueOf 1 = .ok (.istore_n 3, 1) := by decide +kernel
theorem dX2_valueOf_2 : decode cX2_valueOf 2 = .ok (.iload_n 1, 1) := by decide +kernel
theorem dX2_valueOf_3 : decode cX2_valueOf 3 = .ok (.istore 4, 2) := by decide +kernel
theorem dX2_valueOf_5 : decode cX2_valueOf 5 = .ok (.iload 4, 2) := by decide +kernel
theorem dX2_valueOf_7 : decode cX2_valueOf 7 = .ok (.iload_n 2, 1) := by decide +kernel
theorem dX2_valueOf_8 : decode cX2_valueOf 8 = .ok (.if_icmp .ge 24, 3) := by decide +kernel
theorem dX2_valueOf_11 : decode cX2_valueOf 11 = .ok (.iload_n 3, 1) := by decide +kernel
theorem dX2_valueOf_12 : decode cX2_valueOf 12 = .ok (.bipush 10, 2) := by decide +kernel
theorem dX2_valueOf_14 : decode cX2_valueOf 14 = .ok (.imul, 1) := by decide +kernel
theorem dX2_valueOf_15 : decode cX2_valueOf 15 = .ok (.aload_n 0, 1) := by decide +kernel
theorem dX2_valueOf_16 : decode cX2_valueOf 16 = .ok (.iload 4, 2) := by decide +kernel
theorem dX2_valueOf_18 : decode cX2_valueOf 18 = .ok (.invokevirtual 35, 3) := by decide +kernel
theorem dX2_valueOf_21 : decode cX2_valueOf 21 = .ok (.iadd, 1) := by decide +kernel
theorem dX2_valueOf_22 : decode cX2_valueOf 22 = .ok (.bipush 48, 2) := by decide +kernel
theorem dX2_valueOf_24 : decode cX2_valueOf 24 = .ok (.isub, 1) := by decide +kernel
theorem dX2_valueOf_25 : decode cX2_valueOf 25 = .ok (.istore_n 3, 1) := by decide +kernel
theorem dX2_valueOf_26 : decode cX2_valueOf 26 = .ok (.iinc 4 1, 3) := by decide +kernel
theorem dX2_valueOf_29 : decode cX2_valueOf 29 = .ok (.goto (-24), 3) := by decide +kernel
theorem dX2_valueOf_32 : decode cX2_valueOf 32 = .ok (.iload_n 3, 1) := by decide +kernel
theorem dX2_valueOf_33 : decode cX2_valueOf 33 = .ok (.ireturn, 1) := by decide +kernel
theorem dX3_init_0 : decode cX3_init 0 = .ok (.aload_n 0, 1) := by decide +kernel
theorem dX3_init_1 : decode cX3_init 1 = .ok (.invokespecial 3, 3) := by decide +kernel
theorem dX3_init_4 : decode cX3_init 4 = .ok (.aload_n 0, 1) := by decide +kernel
theorem dX3_init_5 : decode cX3_init 5 = .ok (.bipush 60, 2) := by decide +kernel
theorem dX3_init_7 : decode cX3_init 7 = .ok (.newarray .int, 2) := by decide +kernel
theorem dX3_init_9 : decode cX3_init 9 = .ok (.putfield 9, 3) := by decide +kernel
theorem dX3_init_12 : decode cX3_init 12 = .ok (.aload_n 0, 1) := by decide +kernel
theorem dX3_init_13 : decode cX3_init 13 = .ok (.bipush 60, 2) := by decide +kernel
theorem dX3_init_15 : decode cX3_init 15 = .ok (.newarray .boolean, 2) := by decide +kernel
theorem dX3_init_17 : decode cX3_init 17 = .ok (.putfield 15, 3) := by decide +kernel
theorem dX3_init_20 : decode cX3_init 20 = .ok (.aload_n 0, 1) := by decide +kernel
theorem dX3_init_21 : decode cX3_init 21 = .ok (.bipush 60, 2) := by decide +kernel
theorem dX3_init_23 : decode cX3_init 23 = .ok (.newarray .int, 2) := by decide +kernel
theorem dX3_init_25 : decode cX3_init 25 = .ok (.putfield 19, 3) := by decide +kernel
theorem dX3_init_28 : decode cX3_init 28 = .ok (.aload_n 0, 1) := by decide +kernel
theorem dX3_init_29 : decode cX3_init 29 = .ok (.bipush 60, 2) := by decide +kernel
theorem dX3_init_31 : decode cX3_init 31 = .ok (.newarray .int, 2) := by decide +kernel
theorem dX3_init_33 : decode cX3_init 33 = .ok (.putfield 22, 3) := by decide +kernel
theorem dX3_init_36 : decode cX3_init 36 = .ok (.aload_n 0, 1) := by decide +kernel
theorem dX3_init_37 : decode cX3_init 37 = .ok (.iconst 0, 1) := by decide +kernel
theorem dX3_init_38 : decode cX3_init 38 = .ok (.putfield 25, 3) := by decide +kernel
theorem dX3_init_41 : decode cX3_init 41 = .ok (.aload_n 0, 1) := by decide +kernel
theorem dX3_init_42 : decode cX3_init 42 = .ok (.iconst 0, 1) := by decide +kernel
theorem dX3_init_43 : decode cX3_init 43 = .ok (.putfield 29, 3) := by decide +kernel
theorem dX3_init_46 : decode cX3_init 46 = .ok (.return_, 1) := by decide +kernel
theorem dX3_has_0 : decode cX3_has 0 = .ok (.iload_n 1, 1) := by decide +kernel
theorem dX3_has_1 : decode cX3_has 1 = .ok (.iconst 0, 1) := by decide +kernel
theorem dX3_has_2 : decode cX3_has 2 = .ok (.aload_n 0, 1) := by decide +kernel
theorem dX3_has_3 : decode cX3_has 3 = .ok (.getfield 25, 3) := by decide +kernel
theorem dX3_has_6 : decode cX3_has 6 = .ok (.iconst 1, 1) := by decide +kernel
theorem dX3_has_7 : decode cX3_has 7 = .ok (.isub, 1) := by decide +kernel
theorem dX3_has_8 : decode cX3_has 8 = .ok (.invokestatic 32, 3) := by decide +kernel
theorem dX3_has_11 : decode cX3_has 11 = .ok (.ireturn, 1) := by decide +kernel
theorem dX3_fill_0 : decode cX3_fill 0 = .ok (.aload_n 0, 1) := by decide +kernel
theorem dX3_fill_1 : decode cX3_fill 1 = .ok (.iconst 0, 1) := by decide +kernel
theorem dX3_fill_2 : decode cX3_fill 2 = .ok (.putfield 25, 3) := by decide +kernel
theorem dX3_fill_5 : decode cX3_fill 5 = .ok (.iconst 0, 1) := by decide +kernel
theorem dX3_fill_6 : decode cX3_fill 6 = .ok (.istore 4, 2) := by decide +kernel
theorem dX3_fill_8 : decode cX3_fill 8 = .ok (.iload 4, 2) := by decide +kernel
theorem dX3_fill_10 : decode cX3_fill 10 = .ok (.iload_n 2, 1) := by decide +kernel
theorem dX3_fill_11 : decode cX3_fill 11 = .ok (.if_icmp .ge 42, 3) := by decide +kernel
theorem dX3_fill_14 : decode cX3_fill 14 = .ok (.aload_n 3, 1) := by decide +kernel
theorem dX3_fill_15 : decode cX3_fill 15 = .ok (.aload_n 1, 1) := by decide +kernel
theorem dX3_fill_16 : decode cX3_fill 16 = .ok (.iload 4, 2) := by decide +kernel
theorem dX3_fill_18 : decode cX3_fill 18 = .ok (.iaload, 1) := by decide +kernel
theorem dX3_fill_19 : decode cX3_fill 19 = .ok (.iaload, 1) := by decide +kernel
theorem dX3_fill_20 : decode cX3_fill 20 = .ok (.iconst (-1), 1) := by decide +kernel
theorem dX3_fill_21 : decode cX3_fill 21 = .ok (.if_icmp .eq 26, 3) := by decide +kernel
theorem dX3_fill_24 : decode cX3_fill 24 = .ok (.aload_n 0, 1) := by decide +kernel
theorem dX3_fill_25 : decode cX3_fill 25 = .ok (.getfield 9, 3) := by decide +kernel
theorem dX3_fill_28 : decode cX3_fill 28 = .ok (.aload_n 0, 1) := by decide +kernel
theorem dX3_fill_29 : decode cX3_fill 29 = .ok (.getfield 25, 3) := by decide +kernel
theorem dX3_fill_32 : decode cX3_fill 32 = .ok (.aload_n 1, 1) := by decide +kernel
theorem dX3_fill_33 : decode cX3_fill 33 = .ok (.iload 4, 2) := by decide +kernel
theorem dX3_fill_35 : decode cX3_fill 35 = .ok (.iaload, 1) := by decide +kernel
theorem dX3_fill_36 : decode cX3_fill 36 = .ok (.iastore, 1) := by decide +kernel
theorem dX3_fill_37 : decode cX3_fill 37 = .ok (.aload_n 0, 1) := by decide +kernel
theorem dX3_fill_38 : decode cX3_fill 38 = .ok (.dup, 1) := by decide +kernel
theorem dX3_fill_39 : decode cX3_fill 39 = .ok (.getfield 25, 3) := by decide +kernel
theorem dX3_fill_42 : decode cX3_fill 42 = .ok (.iconst 1, 1) := by decide +kernel
theorem dX3_fill_43 : decode cX3_fill 43 = .ok (.iadd, 1) := by decide +kernel
theorem dX3_fill_44 : decode cX3_fill 44 = .ok (.putfield 25, 3) := by decide +kernel
theorem dX3_fill_47 : decode cX3_fill 47 = .ok (.iinc 4 1, 3) := by decide +kernel
theorem dX3_fill_50 : decode cX3_fill 50 = .ok (.goto (-42), 3) := by decide +kernel
theorem dX3_fill_53 : decode cX3_fill 53 = .ok (.return_, 1) := by decide +kernel
theorem dX3_carry_0 : decode cX3_carry 0 = .ok (.aload_n 0, 1) := by decide +kernel
theorem dX3_carry_1 : decode cX3_carry 1 = .ok (.getfield 9, 3) := by decide +kernel
theorem dX3_carry_4 : decode cX3_carry 4 = .ok (.iload_n 1, 1) := by decide +kernel
theorem dX3_carry_5 : decode cX3_carry 5 = .ok (.iaload, 1) := by decide +kernel
theorem dX3_carry_6 : decode cX3_carry 6 = .ok (.istore_n 3, 1) := by decide +kernel
theorem dX3_carry_7 : decode cX3_carry 7 = .ok (.iload_n 1, 1) := by decide +kernel
theorem dX3_carry_8 : decode cX3_carry 8 = .ok (.istore 4, 2) := by decide +kernel
theorem dX3_carry_10 : decode cX3_carry 10 = .ok (.iload 4, 2) := by decide +kernel
theorem dX3_carry_12 : decode cX3_carry 12 = .ok (.iload_n 2, 1) := by decide +kernel
theorem dX3_carry_13 : decode cX3_carry 13 = .ok (.if_icmp .ge 25, 3) := by decide +kernel
theorem dX3_carry_16 : decode cX3_carry 16 = .ok (.aload_n 0, 1) := by decide +kernel
theorem dX3_carry_17 : decode cX3_carry 17 = .ok (.getfield 9, 3) := by decide +kernel
theorem dX3_carry_20 : decode cX3_carry 20 = .ok (.iload 4, 2) := by decide +kernel
theorem dX3_carry_22 : decode cX3_carry 22 = .ok (.aload_n 0, 1) := by decide +kernel
theorem dX3_carry_23 : decode cX3_carry 23 = .ok (.getfield 9, 3) := by decide +kernel
theorem dX3_carry_26 : decode cX3_carry 26 = .ok (.iload 4, 2) := by decide +kernel
theorem dX3_carry_28 : decode cX3_carry 28 = .ok (.iconst 1, 1) := by decide +kernel
theorem dX3_carry_29 : decode cX3_carry 29 = .ok (.iadd, 1) := by decide +kernel
theorem dX3_carry_30 : decode cX3_carry 30 = .ok (.iaload, 1) := by decide +kernel
theorem dX3_carry_31 : decode cX3_carry 31 = .ok (.iastore, 1) := by decide +kernel
theorem dX3_carry_32 : decode cX3_carry 32 = .ok (.iinc 4 1, 3) := by decide +kernel
theorem dX3_carry_35 : decode cX3_carry 35 = .ok (.goto (-25), 3) := by decide +kernel
theorem dX3_carry_38 : decode cX3_carry 38 = .ok (.iload_n 1, 1) := by decide +kernel
theorem dX3_carry_39 : decode cX3_carry 39 = .ok (.istore 4, 2) := by decide +kernel
theorem dX3_carry_41 : decode cX3_carry 41 = .ok (.iload 4, 2) := by decide +kernel
theorem dX3_carry_43 : decode cX3_carry 43 = .ok (.iload_n 2, 1) := by decide +kernel
theorem dX3_carry_44 : decode cX3_carry 44 = .ok (.if_icmp .le 25, 3) := by decide +kernel
theorem dX3_carry_47 : decode cX3_carry 47 = .ok (.aload_n 0, 1) := by decide +kernel
theorem dX3_carry_48 : decode cX3_carry 48 = .ok (.getfield 9, 3) := by decide +kernel
theorem dX3_carry_51 : decode cX3_carry 51 = .ok (.iload 4, 2) := by decide +kernel
theorem dX3_carry_53 : decode cX3_carry 53 = .ok (.aload_n 0, 1) := by decide +kernel
theorem dX3_carry_54 : decode cX3_carry 54 = .ok (.getfield 9, 3) := by decide +kernel
theorem dX3_carry_57 : decode cX3_carry 57 = .ok (.iload 4, 2) := by decide +kernel
theorem dX3_carry_59 : decode cX3_carry 59 = .ok (.iconst 1, 1) := by decide +kernel
theorem dX3_carry_60 : decode cX3_carry 60 = .ok (.isub, 1) := by decide +kernel
theorem dX3_carry_61 : decode cX3_carry 61 = .ok (.iaload, 1) := by decide +kernel
theorem dX3_carry_62 : decode cX3_carry 62 = .ok (.iastore, 1) := by decide +kernel
theorem dX3_carry_63 : decode cX3_carry 63 = .ok (.iinc 4 (-1), 3) := by decide +kernel
theorem dX3_carry_66 : decode cX3_carry 66 = .ok (.goto (-25), 3) := by decide +kernel
theorem dX3_carry_69 : decode cX3_carry 69 = .ok (.aload_n 0, 1) := by decide +kernel
theorem dX3_carry_70 : decode cX3_carry 70 = .ok (.getfield 9, 3) := by decide +kernel
theorem dX3_carry_73 : decode cX3_carry 73 = .ok (.iload_n 2, 1) := by decide +kernel
theorem dX3_carry_74 : decode cX3_carry 74 = .ok (.iload_n 3, 1) := by decide +kernel
theorem dX3_carry_75 : decode cX3_carry 75 = .ok (.iastore, 1) := by decide +kernel
theorem dX3_carry_76 : decode cX3_carry 76 = .ok (.return_, 1) := by decide +kernel
theorem dX3_findOuts_0 : decode cX3_findOuts 0 = .ok (.iconst 0, 1) := by decide +kernel
theorem dX3_findOuts_1 : decode cX3_findOuts 1 = .ok (.istore_n 3, 1) := by decide +kernel
theorem dX3_findOuts_2 : decode cX3_findOuts 2 = .ok (.aload_n 0, 1) := by decide +kernel
theorem dX3_findOuts_3 : decode cX3_findOuts 3 = .ok (.getfield 25, 3) := by decide +kernel
theorem dX3_findOuts_6 : decode cX3_findOuts 6 = .ok (.iconst 1, 1) := by decide +kernel
theorem dX3_findOuts_7 : decode cX3_findOuts 7 = .ok (.isub, 1) := by decide +kernel
theorem dX3_findOuts_8 : decode cX3_findOuts 8 = .ok (.istore 4, 2) := by decide +kernel
theorem dX3_findOuts_10 : decode cX3_findOuts 10 = .ok (.iload 4, 2) := by decide +kernel
theorem dX3_findOuts_12 : decode cX3_findOuts 12 = .ok (.ifCond .lt 38, 3) := by decide +kernel
theorem dX3_findOuts_15 : decode cX3_findOuts 15 = .ok (.aload_n 0, 1) := by decide +kernel
theorem dX3_findOuts_16 : decode cX3_findOuts 16 = .ok (.getfield 19, 3) := by decide +kernel
theorem dX3_findOuts_19 : decode cX3_findOuts 19 = .ok (.iload 4, 2) := by decide +kernel
theorem dX3_findOuts_21 : decode cX3_findOuts 21 = .ok (.iconst 1, 1) := by decide +kernel
theorem dX3_findOuts_22 : decode cX3_findOuts 22 = .ok (.aload_n 0, 1) := by decide +kernel
theorem dX3_findOuts_23 : decode cX3_findOuts 23 = .ok (.iload 4, 2) := by decide +kernel
theorem dX3_findOuts_25 : decode cX3_findOuts 25 = .ok (.aload_n 1, 1) := by decide +kernel
theorem dX3_findOuts_26 : decode cX3_findOuts 26 = .ok (.iload_n 2, 1) := by decide +kernel
theorem dX3_findOuts_27 : decode cX3_findOuts 27 = .ok (.invokevirtual 36, 3) := by decide +kernel
theorem dX3_findOuts_30 : decode cX3_findOuts 30 = .ok (.iadd, 1) := by decide +kernel
theorem dX3_findOuts_31 : decode cX3_findOuts 31 = .ok (.iastore, 1) := by decide +kernel
theorem dX3_findOuts_32 : decode cX3_findOuts 32 = .ok (.iload_n 3, 1) := by decide +kernel
theorem dX3_findOuts_33 : decode cX3_findOuts 33 = .ok (.aload_n 0, 1) := by decide +kernel
theorem dX3_findOuts_34 : decode cX3_findOuts 34 = .ok (.getfield 19, 3) := by decide +kernel
theorem dX3_findOuts_37 : decode cX3_findOuts 37 = .ok (.iload 4, 2) := by decide +kernel
theorem dX3_findOuts_39 : decode cX3_findOuts 39 = .ok (.iaload, 1) := by decide +kernel
theorem dX3_findOuts_40 : decode cX3_findOuts 40 = .ok (.invokestatic 40, 3) := by decide +kernel
theorem dX3_findOuts_43 : decode cX3_findOuts 43 = .ok (.istore_n 3, 1) := by decide +kernel
theorem dX3_findOuts_44 : decode cX3_findOuts 44 = .ok (.iinc 4 (-1), 3) := by decide +kernel
theorem dX3_findOuts_47 : decode cX3_findOuts 47 = .ok (.goto (-37), 3) := by decide +kernel
theorem dX3_findOuts_50 : decode cX3_findOuts 50 = .ok (.aload_n 0, 1) := by decide +kernel
theorem dX3_findOuts_51 : decode cX3_findOuts 51 = .ok (.aload_n 0, 1) := by decide +kernel
theorem dX3_findOuts_52 : decode cX3_findOuts 52 = .ok (.getfield 25, 3) := by decide +kernel
theorem dX3_findOuts_55 : decode cX3_findOuts 55 = .ok (.iload_n 3, 1) := by decide +kernel
theorem dX3_findOuts_56 : decode cX3_findOuts 56 = .ok (.isub, 1) := by decide +kernel
theorem dX3_findOuts_57 : decode cX3_findOuts 57 = .ok (.putfield 29, 3) := by decide +kernel
theorem dX3_findOuts_60 : decode cX3_findOuts 60 = .ok (.iload_n 3, 1) := by decide +kernel
theorem dX3_findOuts_61 : decode cX3_findOuts 61 = .ok (.istore 4, 2) := by decide +kernel
theorem dX3_findOuts_63 : decode cX3_findOuts 63 = .ok (.iconst (-1), 1) := by decide +kernel
theorem dX3_findOuts_64 : decode cX3_findOuts 64 = .ok (.istore 5, 2) := by decide +kernel
theorem dX3_findOuts_66 : decode cX3_findOuts 66 = .ok (.iconst 0, 1) := by decide +kernel
theorem dX3_findOuts_67 : decode cX3_findOuts 67 = .ok (.istore 6, 2) := by decide +kernel
theorem dX3_findOuts_69 : decode cX3_findOuts 69 = .ok (.iload 6, 2) := by decide +kernel
theorem dX3_findOuts_71 : decode cX3_findOuts 71 = .ok (.aload_n 0, 1) := by decide +kernel
theorem dX3_findOuts_72 : decode cX3_findOuts 72 = .ok (.getfield 25, 3) := by decide +kernel
theorem dX3_findOuts_75 : decode cX3_findOuts 75 = .ok (.if_icmp .ge 85, 3) := by decide +kernel
theorem dX3_findOuts_78 : decode cX3_findOuts 78 = .ok (.aload_n 0, 1) := by decide +kernel
theorem dX3_findOuts_79 : decode cX3_findOuts 79 = .ok (.getfield 19, 3) := by decide +kernel
theorem dX3_findOuts_82 : decode cX3_findOuts 82 = .ok (.iload 6, 2) := by decide +kernel
theorem dX3_findOuts_84 : decode cX3_findOuts 84 = .ok (.iaload, 1) := by decide +kernel
theorem dX3_findOuts_85 : decode cX3_findOuts 85 = .ok (.iload 4, 2) := by decide +kernel
theorem dX3_findOuts_87 : decode cX3_findOuts 87 = .ok (.if_icmp .ne 30, 3) := by decide +kernel
theorem dX3_findOuts_90 : decode cX3_findOuts 90 = .ok (.iload 5, 2) := by decide +kernel
theorem dX3_findOuts_92 : decode cX3_findOuts 92 = .ok (.iconst (-1), 1) := by decide +kernel
theorem dX3_findOuts_93 : decode cX3_findOuts 93 = .ok (.if_icmp .eq 20, 3) := by decide +kernel
theorem dX3_findOuts_96 : decode cX3_findOuts 96 = .ok (.aload_n 1, 1) := by decide +kernel
theorem dX3_findOuts_97 : decode cX3_findOuts 97 = .ok (.iload 5, 2) := by decide +kernel
theorem dX3_findOuts_99 : decode cX3_findOuts 99 = .ok (.aload_n 0, 1) := by decide +kernel
theorem dX3_findOuts_100 : decode cX3_findOuts 100 = .ok (.getfield 9, 3) := by decide +kernel
theorem dX3_findOuts_103 : decode cX3_findOuts 103 = .ok (.iload 6, 2) := by decide +kernel
theorem dX3_findOuts_105 : decode cX3_findOuts 105 = .ok (.iaload, 1) := by decide +kernel
theorem dX3_findOuts_106 : decode cX3_findOuts 106 = .ok (.iload_n 2, 1) := by decide +kernel
theorem dX3_findOuts_107 : decode cX3_findOuts 107 = .ok (.invokevirtual 46, 3) := by decide +kernel
theorem dX3_findOuts_110 : decode cX3_findOuts 110 = .ok (.ifCond .ge 7, 3) := by decide +kernel
theorem dX3_findOuts_113 : decode cX3_findOuts 113 = .ok (.iconst 1, 1) := by decide +kernel
theorem dX3_findOuts_114 : decode cX3_findOuts 114 = .ok (.goto 4, 3) := by decide +kernel
theorem dX3_findOuts_117 : decode cX3_findOuts 117 = .ok (.iconst 0, 1) := by decide +kernel
theorem dX3_findOuts_118 : decode cX3_findOuts 118 = .ok (.istore 7, 2) := by decide +kernel
theorem dX3_findOuts_120 : decode cX3_findOuts 120 = .ok (.aload_n 0, 1) := by decide +kernel
theorem dX3_findOuts_121 : decode cX3_findOuts 121 = .ok (.getfield 15, 3) := by decide +kernel
theorem dX3_findOuts_124 : decode cX3_findOuts 124 = .ok (.iload 6, 2) := by decide +kernel
theorem dX3_findOuts_126 : decode cX3_findOuts 126 = .ok (.iload 7, 2) := by decide +kernel
theorem dX3_findOuts_128 : decode cX3_findOuts 128 = .ok (.ifCond .ne 7, 3) := by decide +kernel
theorem dX3_findOuts_131 : decode cX3_findOuts 131 = .ok (.iconst 1, 1) := by decide +kernel
theorem dX3_findOuts_132 : decode cX3_findOuts 132 = .ok (.goto 4, 3) := by decide +kernel
theorem dX3_findOuts_135 : decode cX3_findOuts 135 = .ok (.iconst 0, 1) := by decide +kernel
theorem dX3_findOuts_136 : decode cX3_findOuts 136 = .ok (.bastore, 1) := by decide +kernel
theorem dX3_findOuts_137 : decode cX3_findOuts 137 = .ok (.iload 7, 2) := by decide +kernel
theorem dX3_findOuts_139 : decode cX3_findOuts 139 = .ok (.ifCond .eq 15, 3) := by decide +kernel
theorem dX3_findOuts_142 : decode cX3_findOuts 142 = .ok (.aload_n 0, 1) := by decide +kernel
theorem dX3_findOuts_143 : decode cX3_findOuts 143 = .ok (.getfield 9, 3) := by decide +kernel
theorem dX3_findOuts_146 : decode cX3_findOuts 146 = .ok (.iload 6, 2) := by decide +kernel
theorem dX3_findOuts_148 : decode cX3_findOuts 148 = .ok (.iaload, 1) := by decide +kernel
theorem dX3_findOuts_149 : decode cX3_findOuts 149 = .ok (.istore 5, 2) := by decide +kernel
theorem dX3_findOuts_151 : decode cX3_findOuts 151 = .ok (.iinc 4 (-1), 3) := by decide +kernel
theorem dX3_findOuts_154 : decode cX3_findOuts 154 = .ok (.iinc 6 1, 3) := by decide +kernel
theorem dX3_findOuts_157 : decode cX3_findOuts 157 = .ok (.goto (-88), 3) := by decide +kernel
theorem dX3_findOuts_160 : decode cX3_findOuts 160 = .ok (.return_, 1) := by decide +kernel
theorem dX3_mostBehind_0 : decode cX3_mostBehind 0 = .ok (.iconst 0, 1) := by decide +kernel
theorem dX3_mostBehind_1 : decode cX3_mostBehind 1 = .ok (.istore 4, 2) := by decide +kernel
theorem dX3_mostBehind_3 : decode cX3_mostBehind 3 = .ok (.iload_n 1, 1) := by decide +kernel
theorem dX3_mostBehind_4 : decode cX3_mostBehind 4 = .ok (.iconst 1, 1) := by decide +kernel
theorem dX3_mostBehind_5 : decode cX3_mostBehind 5 = .ok (.iadd, 1) := by decide +kernel
theorem dX3_mostBehind_6 : decode cX3_mostBehind 6 = .ok (.istore 5, 2) := by decide +kernel
theorem dX3_mostBehind_8 : decode cX3_mostBehind 8 = .ok (.iload 5, 2) := by decide +kernel
theorem dX3_mostBehind_10 : decode cX3_mostBehind 10 = .ok (.aload_n 0, 1) := by decide +kernel
theorem dX3_mostBehind_11 : decode cX3_mostBehind 11 = .ok (.getfield 25, 3) := by decide +kernel
theorem dX3_mostBehind_14 : decode cX3_mostBehind 14 = .ok (.if_icmp .ge 51, 3) := by decide +kernel
theorem dX3_mostBehind_17 : decode cX3_mostBehind 17 = .ok (.aload_n 0, 1) := by decide +kernel
theorem dX3_mostBehind_18 : decode cX3_mostBehind 18 = .ok (.getfield 19, 3) := by decide +kernel
theorem dX3_mostBehind_21 : decode cX3_mostBehind 21 = .ok (.iload 5, 2) := by decide +kernel
theorem dX3_mostBehind_23 : decode cX3_mostBehind 23 = .ok (.iaload, 1) := by decide +kernel
theorem dX3_mostBehind_24 : decode cX3_mostBehind 24 = .ok (.iload 4, 2) := by decide +kernel
theorem dX3_mostBehind_26 : decode cX3_mostBehind 26 = .ok (.if_icmp .le 33, 3) := by decide +kernel
theorem dX3_mostBehind_29 : decode cX3_mostBehind 29 = .ok (.aload_n 2, 1) := by decide +kernel
theorem dX3_mostBehind_30 : decode cX3_mostBehind 30 = .ok (.aload_n 0, 1) := by decide +kernel
theorem dX3_mostBehind_31 : decode cX3_mostBehind 31 = .ok (.getfield 9, 3) := by decide +kernel
theorem dX3_mostBehind_34 : decode cX3_mostBehind 34 = .ok (.iload_n 1, 1) := by decide +kernel
theorem dX3_mostBehind_35 : decode cX3_mostBehind 35 = .ok (.iaload, 1) := by decide +kernel
theorem dX3_mostBehind_36 : decode cX3_mostBehind 36 = .ok (.aload_n 0, 1) := by decide +kernel
theorem dX3_mostBehind_37 : decode cX3_mostBehind 37 = .ok (.getfield 9, 3) := by decide +kernel
theorem dX3_mostBehind_40 : decode cX3_mostBehind 40 = .ok (.iload 5, 2) := by decide +kernel
theorem dX3_mostBehind_42 : decode cX3_mostBehind 42 = .ok (.iaload, 1) := by decide +kernel
theorem dX3_mostBehind_43 : decode cX3_mostBehind 43 = .ok (.iload_n 3, 1) := by decide +kernel
theorem dX3_mostBehind_44 : decode cX3_mostBehind 44 = .ok (.invokevirtual 46, 3) := by decide +kernel
theorem dX3_mostBehind_47 : decode cX3_mostBehind 47 = .ok (.ifCond .ge 12, 3) := by decide +kernel
theorem dX3_mostBehind_50 : decode cX3_mostBehind 50 = .ok (.aload_n 0, 1) := by decide +kernel
theorem dX3_mostBehind_51 : decode cX3_mostBehind 51 = .ok (.getfield 19, 3) := by decide +kernel
theorem dX3_mostBehind_54 : decode cX3_mostBehind 54 = .ok (.iload 5, 2) := by decide +kernel
theorem dX3_mostBehind_56 : decode cX3_mostBehind 56 = .ok (.iaload, 1) := by decide +kernel
theorem dX3_mostBehind_57 : decode cX3_mostBehind 57 = .ok (.istore 4, 2) := by decide +kernel
theorem dX3_mostBehind_59 : decode cX3_mostBehind 59 = .ok (.iinc 5 1, 3) := by decide +kernel
theorem dX3_mostBehind_62 : decode cX3_mostBehind 62 = .ok (.goto (-54), 3) := by decide +kernel
theorem dX3_mostBehind_65 : decode cX3_mostBehind 65 = .ok (.iload 4, 2) := by decide +kernel
theorem dX3_mostBehind_67 : decode cX3_mostBehind 67 = .ok (.ireturn, 1) := by decide +kernel
theorem dX3_draw_0 : decode cX3_draw 0 = .ok (.aload_n 0, 1) := by decide +kernel
theorem dX3_draw_1 : decode cX3_draw 1 = .ok (.getfield 25, 3) := by decide +kernel
theorem dX3_draw_4 : decode cX3_draw 4 = .ok (.iconst 1, 1) := by decide +kernel
theorem dX3_draw_5 : decode cX3_draw 5 = .ok (.isub, 1) := by decide +kernel
theorem dX3_draw_6 : decode cX3_draw 6 = .ok (.istore 5, 2) := by decide +kernel
theorem dX3_draw_8 : decode cX3_draw 8 = .ok (.iconst 0, 1) := by decide +kernel
theorem dX3_draw_9 : decode cX3_draw 9 = .ok (.istore 6, 2) := by decide +kernel
theorem dX3_draw_11 : decode cX3_draw 11 = .ok (.iload 6, 2) := by decide +kernel
theorem dX3_draw_13 : decode cX3_draw 13 = .ok (.iload 5, 2) := by decide +kernel
theorem dX3_draw_15 : decode cX3_draw 15 = .ok (.if_icmp .ge 18, 3) := by decide +kernel
theorem dX3_draw_18 : decode cX3_draw 18 = .ok (.aload_n 0, 1) := by decide +kernel
theorem dX3_draw_19 : decode cX3_draw 19 = .ok (.getfield 22, 3) := by decide +kernel
theorem dX3_draw_22 : decode cX3_draw 22 = .ok (.iload 6, 2) := by decide +kernel
theorem dX3_draw_24 : decode cX3_draw 24 = .ok (.iload 6, 2) := by decide +kernel
theorem dX3_draw_26 : decode cX3_draw 26 = .ok (.iastore, 1) := by decide +kernel
theorem dX3_draw_27 : decode cX3_draw 27 = .ok (.iinc 6 1, 3) := by decide +kernel
theorem dX3_draw_30 : decode cX3_draw 30 = .ok (.goto (-19), 3) := by decide +kernel
theorem dX3_draw_33 : decode cX3_draw 33 = .ok (.iload_n 2, 1) := by decide +kernel
theorem dX3_draw_34 : decode cX3_draw 34 = .ok (.istore 6, 2) := by decide +kernel
theorem dX3_draw_36 : decode cX3_draw 36 = .ok (.iconst 0, 1) := by decide +kernel
theorem dX3_draw_37 : decode cX3_draw 37 = .ok (.istore 7, 2) := by decide +kernel
theorem dX3_draw_39 : decode cX3_draw 39 = .ok (.iconst 0, 1) := by decide +kernel
theorem dX3_draw_40 : decode cX3_draw 40 = .ok (.istore 8, 2) := by decide +kernel
theorem dX3_draw_42 : decode cX3_draw 42 = .ok (.iload 8, 2) := by decide +kernel
theorem dX3_draw_44 : decode cX3_draw 44 = .ok (.iload_n 1, 1) := by decide +kernel
theorem dX3_draw_45 : decode cX3_draw 45 = .ok (.if_icmp .ge 103, 3) := by decide +kernel
theorem dX3_draw_48 : decode cX3_draw 48 = .ok (.iload 8, 2) := by decide +kernel
theorem dX3_draw_50 : decode cX3_draw 50 = .ok (.iload 5, 2) := by decide +kernel
theorem dX3_draw_52 : decode cX3_draw 52 = .ok (.if_icmp .ge 96, 3) := by decide +kernel
theorem dX3_draw_55 : decode cX3_draw 55 = .ok (.iload 6, 2) := by decide +kernel
theorem dX3_draw_57 : decode cX3_draw 57 = .ok (.ldc 52, 2) := by decide +kernel
theorem dX3_draw_59 : decode cX3_draw 59 = .ok (.imul, 1) := by decide +kernel
theorem dX3_draw_60 : decode cX3_draw 60 = .ok (.sipush 12345, 3) := by decide +kernel
theorem dX3_draw_63 : decode cX3_draw 63 = .ok (.iadd, 1) := by decide +kernel
theorem dX3_draw_64 : decode cX3_draw 64 = .ok (.istore 6, 2) := by decide +kernel
theorem dX3_draw_66 : decode cX3_draw 66 = .ok (.iload 8, 2) := by decide +kernel
theorem dX3_draw_68 : decode cX3_draw 68 = .ok (.iload 6, 2) := by decide +kernel
theorem dX3_draw_70 : decode cX3_draw 70 = .ok (.bipush 16, 2) := by decide +kernel
theorem dX3_draw_72 : decode cX3_draw 72 = .ok (.iushr, 1) := by decide +kernel
theorem dX3_draw_73 : decode cX3_draw 73 = .ok (.iload 5, 2) := by decide +kernel
theorem dX3_draw_75 : decode cX3_draw 75 = .ok (.iload 8, 2) := by decide +kernel
theorem dX3_draw_77 : decode cX3_draw 77 = .ok (.isub, 1) := by decide +kernel
theorem dX3_draw_78 : decode cX3_draw 78 = .ok (.irem, 1) := by decide +kernel
theorem dX3_draw_79 : decode cX3_draw 79 = .ok (.iadd, 1) := by decide +kernel
theorem dX3_draw_80 : decode cX3_draw 80 = .ok (.istore 9, 2) := by decide +kernel
theorem dX3_draw_82 : decode cX3_draw 82 = .ok (.aload_n 0, 1) := by decide +kernel
theorem dX3_draw_83 : decode cX3_draw 83 = .ok (.getfield 22, 3) := by decide +kernel
theorem dX3_draw_86 : decode cX3_draw 86 = .ok (.iload 9, 2) := by decide +kernel
theorem dX3_draw_88 : decode cX3_draw 88 = .ok (.iaload, 1) := by decide +kernel
theorem dX3_draw_89 : decode cX3_draw 89 = .ok (.istore 10, 2) := by decide +kernel
theorem dX3_draw_91 : decode cX3_draw 91 = .ok (.aload_n 0, 1) := by decide +kernel
theorem dX3_draw_92 : decode cX3_draw 92 = .ok (.getfield 22, 3) := by decide +kernel
theorem dX3_draw_95 : decode cX3_draw 95 = .ok (.iload 9, 2) := by decide +kernel
theorem dX3_draw_97 : decode cX3_draw 97 = .ok (.aload_n 0, 1) := by decide +kernel
theorem dX3_draw_98 : decode cX3_draw 98 = .ok (.getfield 22, 3) := by decide +kernel
theorem dX3_draw_101 : decode cX3_draw 101 = .ok (.iload 8, 2) := by decide +kernel
theorem dX3_draw_103 : decode cX3_draw 103 = .ok (.iaload, 1) := by decide +kernel
theorem dX3_draw_104 : decode cX3_draw 104 = .ok (.iastore, 1) := by decide +kernel
theorem dX3_draw_105 : decode cX3_draw 105 = .ok (.aload_n 0, 1) := by decide +kernel
theorem dX3_draw_106 : decode cX3_draw 106 = .ok (.getfield 22, 3) := by decide +kernel
theorem dX3_draw_109 : decode cX3_draw 109 = .ok (.iload 8, 2) := by decide +kernel
theorem dX3_draw_111 : decode cX3_draw 111 = .ok (.iload 10, 2) := by decide +kernel
theorem dX3_draw_113 : decode cX3_draw 113 = .ok (.iastore, 1) := by decide +kernel
theorem dX3_draw_114 : decode cX3_draw 114 = .ok (.aload_n 3, 1) := by decide +kernel
theorem dX3_draw_115 : decode cX3_draw 115 = .ok (.aload_n 0, 1) := by decide +kernel
theorem dX3_draw_116 : decode cX3_draw 116 = .ok (.getfield 9, 3) := by decide +kernel
theorem dX3_draw_119 : decode cX3_draw 119 = .ok (.iload 10, 2) := by decide +kernel
theorem dX3_draw_121 : decode cX3_draw 121 = .ok (.iaload, 1) := by decide +kernel
theorem dX3_draw_122 : decode cX3_draw 122 = .ok (.aload_n 0, 1) := by decide +kernel
theorem dX3_draw_123 : decode cX3_draw 123 = .ok (.getfield 9, 3) := by decide +kernel
theorem dX3_draw_126 : decode cX3_draw 126 = .ok (.iload 10, 2) := by decide +kernel
theorem dX3_draw_128 : decode cX3_draw 128 = .ok (.iconst 1, 1) := by decide +kernel
theorem dX3_draw_129 : decode cX3_draw 129 = .ok (.iadd, 1) := by decide +kernel
theorem dX3_draw_130 : decode cX3_draw 130 = .ok (.iaload, 1) := by decide +kernel
theorem dX3_draw_131 : decode cX3_draw 131 = .ok (.iload 4, 2) := by decide +kernel
theorem dX3_draw_133 : decode cX3_draw 133 = .ok (.invokevirtual 46, 3) := by decide +kernel
theorem dX3_draw_136 : decode cX3_draw 136 = .ok (.ifCond .le 6, 3) := by decide +kernel
theorem dX3_draw_139 : decode cX3_draw 139 = .ok (.iinc 7 1, 3) := by decide +kernel
theorem dX3_draw_142 : decode cX3_draw 142 = .ok (.iinc 8 1, 3) := by decide +kernel
theorem dX3_draw_145 : decode cX3_draw 145 = .ok (.goto (-103), 3) := by decide +kernel
theorem dX3_draw_148 : decode cX3_draw 148 = .ok (.iload 7, 2) := by decide +kernel
theorem dX3_draw_150 : decode cX3_draw 150 = .ok (.ireturn, 1) := by decide +kernel
theorem dX4_init_0 : decode cX4_init 0 = .ok (.aload_n 0, 1) := by decide +kernel
theorem dX4_init_1 : decode cX4_init 1 = .ok (.invokespecial 3, 3) := by decide +kernel
theorem dX4_init_4 : decode cX4_init 4 = .ok (.aload_n 0, 1) := by decide +kernel
theorem dX4_init_5 : decode cX4_init 5 = .ok (.bipush 16, 2) := by decide +kernel
theorem dX4_init_7 : decode cX4_init 7 = .ok (.newarray .int, 2) := by decide +kernel
theorem dX4_init_9 : decode cX4_init 9 = .ok (.putfield 9, 3) := by decide +kernel
theorem dX4_init_12 : decode cX4_init 12 = .ok (.aload_n 0, 1) := by decide +kernel
theorem dX4_init_13 : decode cX4_init 13 = .ok (.bipush 10, 2) := by decide +kernel
theorem dX4_init_15 : decode cX4_init 15 = .ok (.newarray .int, 2) := by decide +kernel
theorem dX4_init_17 : decode cX4_init 17 = .ok (.putfield 15, 3) := by decide +kernel
theorem dX4_init_20 : decode cX4_init 20 = .ok (.aload_n 0, 1) := by decide +kernel
theorem dX4_init_21 : decode cX4_init 21 = .ok (.bipush 16, 2) := by decide +kernel
theorem dX4_init_23 : decode cX4_init 23 = .ok (.newarray .int, 2) := by decide +kernel
theorem dX4_init_25 : decode cX4_init 25 = .ok (.putfield 18, 3) := by decide +kernel
theorem dX4_init_28 : decode cX4_init 28 = .ok (.aload_n 0, 1) := by decide +kernel
theorem dX4_init_29 : decode cX4_init 29 = .ok (.bipush 16, 2) := by decide +kernel
theorem dX4_init_31 : decode cX4_init 31 = .ok (.newarray .int, 2) := by decide +kernel
theorem dX4_init_33 : decode cX4_init 33 = .ok (.putfield 21, 3) := by decide +kernel
theorem dX4_init_36 : decode cX4_init 36 = .ok (.aload_n 0, 1) := by decide +kernel
theorem dX4_init_37 : decode cX4_init 37 = .ok (.bipush 60, 2) := by decide +kernel
theorem dX4_init_39 : decode cX4_init 39 = .ok (.newarray .int, 2) := by decide +kernel
theorem dX4_init_41 : decode cX4_init 41 = .ok (.putfield 24, 3) := by decide +kernel
theorem dX4_init_44 : decode cX4_init 44 = .ok (.aload_n 0, 1) := by decide +kernel
theorem dX4_init_45 : decode cX4_init 45 = .ok (.bipush 60, 2) := by decide +kernel
theorem dX4_init_47 : decode cX4_init 47 = .ok (.newarray .int, 2) := by decide +kernel
theorem dX4_init_49 : decode cX4_init 49 = .ok (.putfield 27, 3) := by decide +kernel
theorem dX4_init_52 : decode cX4_init 52 = .ok (.aload_n 0, 1) := by decide +kernel
theorem dX4_init_53 : decode cX4_init 53 = .ok (.iconst 0, 1) := by decide +kernel
theorem dX4_init_54 : decode cX4_init 54 = .ok (.putfield 30, 3) := by decide +kernel
theorem dX4_init_57 : decode cX4_init 57 = .ok (.aload_n 0, 1) := by decide +kernel
theorem dX4_init_58 : decode cX4_init 58 = .ok (.bipush 30, 2) := by decide +kernel
theorem dX4_init_60 : decode cX4_init 60 = .ok (.putfield 34, 3) := by decide +kernel
theorem dX4_init_63 : decode cX4_init 63 = .ok (.aload_n 0, 1) := by decide +kernel
theorem dX4_init_64 : decode cX4_init 64 = .ok (.iconst 0, 1) := by decide +kernel
theorem dX4_init_65 : decode cX4_init 65 = .ok (.putfield 37, 3) := by decide +kernel
theorem dX4_init_68 : decode cX4_init 68 = .ok (.aload_n 0, 1) := by decide +kernel
theorem dX4_init_69 : decode cX4_init 69 = .ok (.iconst 0, 1) := by decide +kernel
theorem dX4_init_70 : decode cX4_init 70 = .ok (.putfield 40, 3) := by decide +kernel
theorem dX4_init_73 : decode cX4_init 73 = .ok (.return_, 1) := by decide +kernel
theorem dX4_add_0 : decode cX4_add 0 = .ok (.aload_n 0, 1) := by decide +kernel
theorem dX4_add_1 : decode cX4_add 1 = .ok (.getfield 30, 3) := by decide +kernel
theorem dX4_add_4 : decode cX4_add 4 = .ok (.bipush 16, 2) := by decide +kernel
theorem dX4_add_6 : decode cX4_add 6 = .ok (.if_icmp .lt 5, 3) := by decide +kernel
theorem dX4_add_9 : decode cX4_add 9 = .ok (.iconst (-1), 1) := by decide +kernel
theorem dX4_add_10 : decode cX4_add 10 = .ok (.ireturn, 1) := by decide +kernel
theorem dX4_add_11 : decode cX4_add 11 = .ok (.aload_n 0, 1) := by decide +kernel
theorem dX4_add_12 : decode cX4_add 12 = .ok (.getfield 9, 3) := by decide +kernel
theorem dX4_add_15 : decode cX4_add 15 = .ok (.aload_n 0, 1) := by decide +kernel
theorem dX4_add_16 : decode cX4_add 16 = .ok (.getfield 30, 3) := by decide +kernel
theorem dX4_add_19 : decode cX4_add 19 = .ok (.iload_n 1, 1) := by decide +kernel
theorem dX4_add_20 : decode cX4_add 20 = .ok (.iastore, 1) := by decide +kernel
theorem dX4_add_21 : decode cX4_add 21 = .ok (.aload_n 0, 1) := by decide +kernel
theorem dX4_add_22 : decode cX4_add 22 = .ok (.dup, 1) := by decide +kernel
theorem dX4_add_23 : decode cX4_add 23 = .ok (.getfield 30, 3) := by decide +kernel
theorem dX4_add_26 : decode cX4_add 26 = .ok (.iconst 1, 1) := by decide +kernel
theorem dX4_add_27 : decode cX4_add 27 = .ok (.iadd, 1) := by decide +kernel
theorem dX4_add_28 : decode cX4_add 28 = .ok (.putfield 30, 3) := by decide +kernel
theorem dX4_add_31 : decode cX4_add 31 = .ok (.aload_n 0, 1) := by decide +kernel
theorem dX4_add_32 : decode cX4_add 32 = .ok (.getfield 30, 3) := by decide +kernel
theorem dX4_add_35 : decode cX4_add 35 = .ok (.iconst 1, 1) := by decide +kernel
theorem dX4_add_36 : decode cX4_add 36 = .ok (.isub, 1) := by decide +kernel
theorem dX4_add_37 : decode cX4_add 37 = .ok (.ireturn, 1) := by decide +kernel
theorem dX4_room_0 : decode cX4_room 0 = .ok (.bipush 100, 2) := by decide +kernel
theorem dX4_room_2 : decode cX4_room 2 = .ok (.aload_n 0, 1) := by decide +kernel
theorem dX4_room_3 : decode cX4_room 3 = .ok (.getfield 9, 3) := by decide +kernel
theorem dX4_room_6 : decode cX4_room 6 = .ok (.iload_n 1, 1) := by decide +kernel
theorem dX4_room_7 : decode cX4_room 7 = .ok (.iaload, 1) := by decide +kernel
theorem dX4_room_8 : decode cX4_room 8 = .ok (.imul, 1) := by decide +kernel
theorem dX4_room_9 : decode cX4_room 9 = .ok (.ireturn, 1) := by decide +kernel
theorem dX4_lay_0 : decode cX4_lay 0 = .ok (.aload_n 0, 1) := by decide +kernel
theorem dX4_lay_1 : decode cX4_lay 1 = .ok (.invokevirtual 43, 3) := by decide +kernel
theorem dX4_lay_4 : decode cX4_lay 4 = .ok (.iconst 0, 1) := by decide +kernel
theorem dX4_lay_5 : decode cX4_lay 5 = .ok (.istore_n 3, 1) := by decide +kernel
theorem dX4_lay_6 : decode cX4_lay 6 = .ok (.iconst 0, 1) := by decide +kernel
theorem dX4_lay_7 : decode cX4_lay 7 = .ok (.istore 4, 2) := by decide +kernel
theorem dX4_lay_9 : decode cX4_lay 9 = .ok (.iload 4, 2) := by decide +kernel
theorem dX4_lay_11 : decode cX4_lay 11 = .ok (.aload_n 1, 1) := by decide +kernel
theorem dX4_lay_12 : decode cX4_lay 12 = .ok (.getfield 46, 3) := by decide +kernel
theorem dX4_lay_15 : decode cX4_lay 15 = .ok (.if_icmp .ge 149, 3) := by decide +kernel
theorem dX4_lay_18 : decode cX4_lay 18 = .ok (.aload_n 1, 1) := by decide +kernel
theorem dX4_lay_19 : decode cX4_lay 19 = .ok (.getfield 49, 3) := by decide +kernel
theorem dX4_lay_22 : decode cX4_lay 22 = .ok (.iload_n 2, 1) := by decide +kernel
theorem dX4_lay_23 : decode cX4_lay 23 = .ok (.aaload, 1) := by decide +kernel
theorem dX4_lay_24 : decode cX4_lay 24 = .ok (.iload 4, 2) := by decide +kernel
theorem dX4_lay_26 : decode cX4_lay 26 = .ok (.iaload, 1) := by decide +kernel
theorem dX4_lay_27 : decode cX4_lay 27 = .ok (.istore 5, 2) := by decide +kernel
theorem dX4_lay_29 : decode cX4_lay 29 = .ok (.aload_n 0, 1) := by decide +kernel
theorem dX4_lay_30 : decode cX4_lay 30 = .ok (.getfield 24, 3) := by decide +kernel
theorem dX4_lay_33 : decode cX4_lay 33 = .ok (.iload 5, 2) := by decide +kernel
theorem dX4_lay_35 : decode cX4_lay 35 = .ok (.iconst (-1), 1) := by decide +kernel
theorem dX4_lay_36 : decode cX4_lay 36 = .ok (.iastore, 1) := by decide +kernel
theorem dX4_lay_37 : decode cX4_lay 37 = .ok (.aload_n 0, 1) := by decide +kernel
theorem dX4_lay_38 : decode cX4_lay 38 = .ok (.getfield 27, 3) := by decide +kernel
theorem dX4_lay_41 : decode cX4_lay 41 = .ok (.iload 5, 2) := by decide +kernel
theorem dX4_lay_43 : decode cX4_lay 43 = .ok (.iconst (-1), 1) := by decide +kernel
theorem dX4_lay_44 : decode cX4_lay 44 = .ok (.iastore, 1) := by decide +kernel
theorem dX4_lay_45 : decode cX4_lay 45 = .ok (.aload_n 1, 1) := by decide +kernel
theorem dX4_lay_46 : decode cX4_lay 46 = .ok (.getfield 53, 3) := by decide +kernel
theorem dX4_lay_49 : decode cX4_lay 49 = .ok (.iload 5, 2) := by decide +kernel
theorem dX4_lay_51 : decode cX4_lay 51 = .ok (.iaload, 1) := by decide +kernel
theorem dX4_lay_52 : decode cX4_lay 52 = .ok (.aload_n 0, 1) := by decide +kernel
theorem dX4_lay_53 : decode cX4_lay 53 = .ok (.getfield 34, 3) := by decide +kernel
theorem dX4_lay_56 : decode cX4_lay 56 = .ok (.if_icmp .le 16, 3) := by decide +kernel
theorem dX4_lay_59 : decode cX4_lay 59 = .ok (.aload_n 0, 1) := by decide +kernel
theorem dX4_lay_60 : decode cX4_lay 60 = .ok (.dup, 1) := by decide +kernel
theorem dX4_lay_61 : decode cX4_lay 61 = .ok (.getfield 37, 3) := by decide +kernel
theorem dX4_lay_64 : decode cX4_lay 64 = .ok (.iconst 1, 1) := by decide +kernel
theorem dX4_lay_65 : decode cX4_lay 65 = .ok (.iadd, 1) := by decide +kernel
theorem dX4_lay_66 : decode cX4_lay 66 = .ok (.putfield 37, 3) := by decide +kernel
theorem dX4_lay_69 : decode cX4_lay 69 = .ok (.goto 89, 3) := by decide +kernel
theorem dX4_lay_72 : decode cX4_lay 72 = .ok (.aload_n 1, 1) := by decide +kernel
theorem dX4_lay_73 : decode cX4_lay 73 = .ok (.getfield 56, 3) := by decide +kernel
theorem dX4_lay_76 : decode cX4_lay 76 = .ok (.iload 5, 2) := by decide +kernel
theorem dX4_lay_78 : decode cX4_lay 78 = .ok (.iaload, 1) := by decide +kernel
theorem dX4_lay_79 : decode cX4_lay 79 = .ok (.bipush 100, 2) := by decide +kernel
theorem dX4_lay_81 : decode cX4_lay 81 = .ok (.aload_n 0, 1) := by decide +kernel
theorem dX4_lay_82 : decode cX4_lay 82 = .ok (.getfield 15, 3) := by decide +kernel
theorem dX4_lay_85 : decode cX4_lay 85 = .ok (.aload_n 1, 1) := by decide +kernel
theorem dX4_lay_86 : decode cX4_lay 86 = .ok (.getfield 59, 3) := by decide +kernel
theorem dX4_lay_89 : decode cX4_lay 89 = .ok (.iload 5, 2) := by decide +kernel
theorem dX4_lay_91 : decode cX4_lay 91 = .ok (.iaload, 1) := by decide +kernel
theorem dX4_lay_92 : decode cX4_lay 92 = .ok (.iaload, 1) := by decide +kernel
theorem dX4_lay_93 : decode cX4_lay 93 = .ok (.iadd, 1) := by decide +kernel
theorem dX4_lay_94 : decode cX4_lay 94 = .ok (.imul, 1) := by decide +kernel
theorem dX4_lay_95 : decode cX4_lay 95 = .ok (.istore 6, 2) := by decide +kernel
theorem dX4_lay_97 : decode cX4_lay 97 = .ok (.iload_n 3, 1) := by decide +kernel
theorem dX4_lay_98 : decode cX4_lay 98 = .ok (.aload_n 0, 1) := by decide +kernel
theorem dX4_lay_99 : decode cX4_lay 99 = .ok (.getfield 30, 3) := by decide +kernel
theorem dX4_lay_102 : decode cX4_lay 102 = .ok (.if_icmp .ge 26, 3) := by decide +kernel
theorem dX4_lay_105 : decode cX4_lay 105 = .ok (.aload_n 0, 1) := by decide +kernel
theorem dX4_lay_106 : decode cX4_lay 106 = .ok (.getfield 21, 3) := by decide +kernel
theorem dX4_lay_109 : decode cX4_lay 109 = .ok (.iload_n 3, 1) := by decide +kernel
theorem dX4_lay_110 : decode cX4_lay 110 = .ok (.iaload, 1) := by decide +kernel
theorem dX4_lay_111 : decode cX4_lay 111 = .ok (.iload 6, 2) := by decide +kernel
theorem dX4_lay_113 : decode cX4_lay 113 = .ok (.iadd, 1) := by decide +kernel
theorem dX4_lay_114 : decode cX4_lay 114 = .ok (.aload_n 0, 1) := by decide +kernel
theorem dX4_lay_115 : decode cX4_lay 115 = .ok (.iload_n 3, 1) := by decide +kernel
theorem dX4_lay_116 : decode cX4_lay 116 = .ok (.invokevirtual 62, 3) := by decide +kernel
theorem dX4_lay_119 : decode cX4_lay 119 = .ok (.if_icmp .le 9, 3) := by decide +kernel
theorem dX4_lay_122 : decode cX4_lay 122 = .ok (.iinc 3 1, 3) := by decide +kernel
theorem dX4_lay_125 : decode cX4_lay 125 = .ok (.goto (-28), 3) := by decide +kernel
theorem dX4_lay_128 : decode cX4_lay 128 = .ok (.iload_n 3, 1) := by decide +kernel
theorem dX4_lay_129 : decode cX4_lay 129 = .ok (.aload_n 0, 1) := by decide +kernel
theorem dX4_lay_130 : decode cX4_lay 130 = .ok (.getfield 30, 3) := by decide +kernel
theorem dX4_lay_133 : decode cX4_lay 133 = .ok (.if_icmp .ge 15, 3) := by decide +kernel
theorem dX4_lay_136 : decode cX4_lay 136 = .ok (.aload_n 0, 1) := by decide +kernel
theorem dX4_lay_137 : decode cX4_lay 137 = .ok (.iload 5, 2) := by decide +kernel
theorem dX4_lay_139 : decode cX4_lay 139 = .ok (.iload 6, 2) := by decide +kernel
theorem dX4_lay_141 : decode cX4_lay 141 = .ok (.iload_n 3, 1) := by decide +kernel
theorem dX4_lay_142 : decode cX4_lay 142 = .ok (.invokevirtual 66, 3) := by decide +kernel
theorem dX4_lay_145 : decode cX4_lay 145 = .ok (.goto 13, 3) := by decide +kernel
theorem dX4_lay_148 : decode cX4_lay 148 = .ok (.aload_n 0, 1) := by decide +kernel
theorem dX4_lay_149 : decode cX4_lay 149 = .ok (.dup, 1) := by decide +kernel
theorem dX4_lay_150 : decode cX4_lay 150 = .ok (.getfield 40, 3) := by decide +kernel
theorem dX4_lay_153 : decode cX4_lay 153 = .ok (.iconst 1, 1) := by decide +kernel
theorem dX4_lay_154 : decode cX4_lay 154 = .ok (.iadd, 1) := by decide +kernel
theorem dX4_lay_155 : decode cX4_lay 155 = .ok (.putfield 40, 3) := by decide +kernel
theorem dX4_lay_158 : decode cX4_lay 158 = .ok (.iinc 4 1, 3) := by decide +kernel
theorem dX4_lay_161 : decode cX4_lay 161 = .ok (.goto (-152), 3) := by decide +kernel
theorem dX4_lay_164 : decode cX4_lay 164 = .ok (.return_, 1) := by decide +kernel
theorem dX4_clear_0 : decode cX4_clear 0 = .ok (.aload_n 0, 1) := by decide +kernel
theorem dX4_clear_1 : decode cX4_clear 1 = .ok (.iconst 0, 1) := by decide +kernel
theorem dX4_clear_2 : decode cX4_clear 2 = .ok (.putfield 37, 3) := by decide +kernel
theorem dX4_clear_5 : decode cX4_clear 5 = .ok (.aload_n 0, 1) := by decide +kernel
theorem dX4_clear_6 : decode cX4_clear 6 = .ok (.iconst 0, 1) := by decide +kernel
theorem dX4_clear_7 : decode cX4_clear 7 = .ok (.putfield 40, 3) := by decide +kernel
theorem dX4_clear_10 : decode cX4_clear 10 = .ok (.iconst 0, 1) := by decide +kernel
theorem dX4_clear_11 : decode cX4_clear 11 = .ok (.istore_n 1, 1) := by decide +kernel
theorem dX4_clear_12 : decode cX4_clear 12 = .ok (.iload_n 1, 1) := by decide +kernel
theorem dX4_clear_13 : decode cX4_clear 13 = .ok (.aload_n 0, 1) := by decide +kernel
theorem dX4_clear_14 : decode cX4_clear 14 = .ok (.getfield 30, 3) := by decide +kernel
theorem dX4_clear_17 : decode cX4_clear 17 = .ok (.if_icmp .ge 23, 3) := by decide +kernel
theorem dX4_clear_20 : decode cX4_clear 20 = .ok (.aload_n 0, 1) := by decide +kernel
theorem dX4_clear_21 : decode cX4_clear 21 = .ok (.getfield 18, 3) := by decide +kernel
theorem dX4_clear_24 : decode cX4_clear 24 = .ok (.iload_n 1, 1) := by decide +kernel
theorem dX4_clear_25 : decode cX4_clear 25 = .ok (.iconst 0, 1) := by decide +kernel
theorem dX4_clear_26 : decode cX4_clear 26 = .ok (.iastore, 1) := by decide +kernel
theorem dX4_clear_27 : decode cX4_clear 27 = .ok (.aload_n 0, 1) := by decide +kernel
theorem dX4_clear_28 : decode cX4_clear 28 = .ok (.getfield 21, 3) := by decide +kernel
theorem dX4_clear_31 : decode cX4_clear 31 = .ok (.iload_n 1, 1) := by decide +kernel
theorem dX4_clear_32 : decode cX4_clear 32 = .ok (.iconst 0, 1) := by decide +kernel
theorem dX4_clear_33 : decode cX4_clear 33 = .ok (.iastore, 1) := by decide +kernel
theorem dX4_clear_34 : decode cX4_clear 34 = .ok (.iinc 1 1, 3) := by decide +kernel
theorem dX4_clear_37 : decode cX4_clear 37 = .ok (.goto (-25), 3) := by decide +kernel
theorem dX4_clear_40 : decode cX4_clear 40 = .ok (.return_, 1) := by decide +kernel
theorem dX4_put_0 : decode cX4_put 0 = .ok (.aload_n 0, 1) := by decide +kernel
theorem dX4_put_1 : decode cX4_put 1 = .ok (.getfield 24, 3) := by decide +kernel
theorem dX4_put_4 : decode cX4_put 4 = .ok (.iload_n 1, 1) := by decide +kernel
theorem dX4_put_5 : decode cX4_put 5 = .ok (.iload_n 3, 1) := by decide +kernel
theorem dX4_put_6 : decode cX4_put 6 = .ok (.iastore, 1) := by decide +kernel
theorem dX4_put_7 : decode cX4_put 7 = .ok (.aload_n 0, 1) := by decide +kernel
theorem dX4_put_8 : decode cX4_put 8 = .ok (.getfield 27, 3) := by decide +kernel
theorem dX4_put_11 : decode cX4_put 11 = .ok (.iload_n 1, 1) := by decide +kernel
theorem dX4_put_12 : decode cX4_put 12 = .ok (.aload_n 0, 1) := by decide +kernel
theorem dX4_put_13 : decode cX4_put 13 = .ok (.getfield 18, 3) := by decide +kernel
theorem dX4_put_16 : decode cX4_put 16 = .ok (.iload_n 3, 1) := by decide +kernel
theorem dX4_put_17 : decode cX4_put 17 = .ok (.iaload, 1) := by decide +kernel
theorem dX4_put_18 : decode cX4_put 18 = .ok (.iastore, 1) := by decide +kernel
theorem dX4_put_19 : decode cX4_put 19 = .ok (.aload_n 0, 1) := by decide +kernel
theorem dX4_put_20 : decode cX4_put 20 = .ok (.getfield 18, 3) := by decide +kernel
theorem dX4_put_23 : decode cX4_put 23 = .ok (.iload_n 3, 1) := by decide +kernel
theorem dX4_put_24 : decode cX4_put 24 = .ok (.dup2, 1) := by decide +kernel
theorem dX4_put_25 : decode cX4_put 25 = .ok (.iaload, 1) := by decide +kernel
theorem dX4_put_26 : decode cX4_put 26 = .ok (.iconst 1, 1) := by decide +kernel
theorem dX4_put_27 : decode cX4_put 27 = .ok (.iadd, 1) := by decide +kernel
theorem dX4_put_28 : decode cX4_put 28 = .ok (.iastore, 1) := by decide +kernel
theorem dX4_put_29 : decode cX4_put 29 = .ok (.aload_n 0, 1) := by decide +kernel
theorem dX4_put_30 : decode cX4_put 30 = .ok (.getfield 21, 3) := by decide +kernel
theorem dX4_put_33 : decode cX4_put 33 = .ok (.iload_n 3, 1) := by decide +kernel
theorem dX4_put_34 : decode cX4_put 34 = .ok (.dup2, 1) := by decide +kernel
theorem dX4_put_35 : decode cX4_put 35 = .ok (.iaload, 1) := by decide +kernel
theorem dX4_put_36 : decode cX4_put 36 = .ok (.iload_n 2, 1) := by decide +kernel
theorem dX4_put_37 : decode cX4_put 37 = .ok (.iadd, 1) := by decide +kernel
theorem dX4_put_38 : decode cX4_put 38 = .ok (.iastore, 1) := by decide +kernel
theorem dX4_put_39 : decode cX4_put 39 = .ok (.return_, 1) := by decide +kernel
theorem dX5_init_0 : decode cX5_init 0 = .ok (.aload_n 0, 1) := by decide +kernel
theorem dX5_init_1 : decode cX5_init 1 = .ok (.invokespecial 3, 3) := by decide +kernel
theorem dX5_init_4 : decode cX5_init 4 = .ok (.aload_n 0, 1) := by decide +kernel
theorem dX5_init_5 : decode cX5_init 5 = .ok (.bipush 20, 2) := by decide +kernel
theorem dX5_init_7 : decode cX5_init 7 = .ok (.newarray .int, 2) := by decide +kernel
theorem dX5_init_9 : decode cX5_init 9 = .ok (.putfield 9, 3) := by decide +kernel
theorem dX5_init_12 : decode cX5_init 12 = .ok (.aload_n 0, 1) := by decide +kernel
theorem dX5_init_13 : decode cX5_init 13 = .ok (.iconst 0, 1) := by decide +kernel
theorem dX5_init_14 : decode cX5_init 14 = .ok (.putfield 15, 3) := by decide +kernel
theorem dX5_init_17 : decode cX5_init 17 = .ok (.return_, 1) := by decide +kernel
theorem dX5_append_0 : decode cX5_append 0 = .ok (.bipush 24, 2) := by decide +kernel
theorem dX5_append_2 : decode cX5_append 2 = .ok (.istore_n 2, 1) := by decide +kernel
theorem dX5_append_3 : decode cX5_append 3 = .ok (.iload_n 2, 1) := by decide +kernel
theorem dX5_append_4 : decode cX5_append 4 = .ok (.ifCond .lt 44, 3) := by decide +kernel
theorem dX5_append_7 : decode cX5_append 7 = .ok (.aload_n 0, 1) := by decide +kernel
theorem dX5_append_8 : decode cX5_append 8 = .ok (.getfield 15, 3) := by decide +kernel
theorem dX5_append_11 : decode cX5_append 11 = .ok (.bipush 20, 2) := by decide +kernel
theorem dX5_append_13 : decode cX5_append 13 = .ok (.if_icmp .ge 35, 3) := by decide +kernel
theorem dX5_append_16 : decode cX5_append 16 = .ok (.aload_n 0, 1) := by decide +kernel
theorem dX5_append_17 : decode cX5_append 17 = .ok (.getfield 9, 3) := by decide +kernel
theorem dX5_append_20 : decode cX5_append 20 = .ok (.aload_n 0, 1) := by decide +kernel
theorem dX5_append_21 : decode cX5_append 21 = .ok (.getfield 15, 3) := by decide +kernel
theorem dX5_append_24 : decode cX5_append 24 = .ok (.iload_n 1, 1) := by decide +kernel
theorem dX5_append_25 : decode cX5_append 25 = .ok (.iload_n 2, 1) := by decide +kernel
theorem dX5_append_26 : decode cX5_append 26 = .ok (.iushr, 1) := by decide +kernel
theorem dX5_append_27 : decode cX5_append 27 = .ok (.sipush 255, 3) := by decide +kernel
theorem dX5_append_30 : decode cX5_append 30 = .ok (.iand, 1) := by decide +kernel
theorem dX5_append_31 : decode cX5_append 31 = .ok (.iastore, 1) := by decide +kernel
theorem dX5_append_32 : decode cX5_append 32 = .ok (.aload_n 0, 1) := by decide +kernel
theorem dX5_append_33 : decode cX5_append 33 = .ok (.dup, 1) := by decide +kernel
theorem dX5_append_34 : decode cX5_append 34 = .ok (.getfield 15, 3) := by decide +kernel
theorem dX5_append_37 : decode cX5_append 37 = .ok (.iconst 1, 1) := by decide +kernel
theorem dX5_append_38 : decode cX5_append 38 = .ok (.iadd, 1) := by decide +kernel
theorem dX5_append_39 : decode cX5_append 39 = .ok (.putfield 15, 3) := by decide +kernel
theorem dX5_append_42 : decode cX5_append 42 = .ok (.iinc 2 (-8), 3) := by decide +kernel
theorem dX5_append_45 : decode cX5_append 45 = .ok (.goto (-42), 3) := by decide +kernel
theorem dX5_append_48 : decode cX5_append 48 = .ok (.return_, 1) := by decide +kernel
theorem dX5_byteAt_0 : decode cX5_byteAt 0 = .ok (.iload_n 1, 1) := by decide +kernel
theorem dX5_byteAt_1 : decode cX5_byteAt 1 = .ok (.iconst 0, 1) := by decide +kernel
theorem dX5_byteAt_2 : decode cX5_byteAt 2 = .ok (.aload_n 0, 1) := by decide +kernel
theorem dX5_byteAt_3 : decode cX5_byteAt 3 = .ok (.getfield 15, 3) := by decide +kernel
theorem dX5_byteAt_6 : decode cX5_byteAt 6 = .ok (.iconst 1, 1) := by decide +kernel
theorem dX5_byteAt_7 : decode cX5_byteAt 7 = .ok (.isub, 1) := by decide +kernel
theorem dX5_byteAt_8 : decode cX5_byteAt 8 = .ok (.invokestatic 19, 3) := by decide +kernel
theorem dX5_byteAt_11 : decode cX5_byteAt 11 = .ok (.ifCond .eq 12, 3) := by decide +kernel
theorem dX5_byteAt_14 : decode cX5_byteAt 14 = .ok (.aload_n 0, 1) := by decide +kernel
theorem dX5_byteAt_15 : decode cX5_byteAt 15 = .ok (.getfield 9, 3) := by decide +kernel
theorem dX5_byteAt_18 : decode cX5_byteAt 18 = .ok (.iload_n 1, 1) := by decide +kernel
theorem dX5_byteAt_19 : decode cX5_byteAt 19 = .ok (.iaload, 1) := by decide +kernel
theorem dX5_byteAt_20 : decode cX5_byteAt 20 = .ok (.goto 4, 3) := by decide +kernel
theorem dX5_byteAt_23 : decode cX5_byteAt 23 = .ok (.iconst (-1), 1) := by decide +kernel
theorem dX5_byteAt_24 : decode cX5_byteAt 24 = .ok (.ireturn, 1) := by decide +kernel
theorem dX5_digitAt_0 : decode cX5_digitAt 0 = .ok (.aload_n 0, 1) := by decide +kernel
theorem dX5_digitAt_1 : decode cX5_digitAt 1 = .ok (.iload_n 1, 1) := by decide +kernel
theorem dX5_digitAt_2 : decode cX5_digitAt 2 = .ok (.invokevirtual 23, 3) := by decide +kernel
theorem dX5_digitAt_5 : decode cX5_digitAt 5 = .ok (.bipush 48, 2) := by decide +kernel
theorem dX5_digitAt_7 : decode cX5_digitAt 7 = .ok (.bipush 57, 2) := by decide +kernel
theorem dX5_digitAt_9 : decode cX5_digitAt 9 = .ok (.invokestatic 19, 3) := by decide +kernel
theorem dX5_digitAt_12 : decode cX5_digitAt 12 = .ok (.ireturn, 1) := by decide +kernel
theorem dX5_letterAt_0 : decode cX5_letterAt 0 = .ok (.aload_n 0, 1) := by decide +kernel
theorem dX5_letterAt_1 : decode cX5_letterAt 1 = .ok (.iload_n 1, 1) := by decide +kernel
theorem dX5_letterAt_2 : decode cX5_letterAt 2 = .ok (.invokevirtual 23, 3) := by decide +kernel
theorem dX5_letterAt_5 : decode cX5_letterAt 5 = .ok (.bipush 97, 2) := by decide +kernel
theorem dX5_letterAt_7 : decode cX5_letterAt 7 = .ok (.bipush 122, 2) := by decide +kernel
theorem dX5_letterAt_9 : decode cX5_letterAt 9 = .ok (.invokestatic 19, 3) := by decide +kernel
theorem dX5_letterAt_12 : decode cX5_letterAt 12 = .ok (.ireturn, 1) := by decide +kernel
theorem dX6_init_0 : decode cX6_init 0 = .ok (.aload_n 0, 1) := by decide +kernel
theorem dX6_init_1 : decode cX6_init 1 = .ok (.invokespecial 1, 3) := by decide +kernel
theorem dX6_init_4 : decode cX6_init 4 = .ok (.aload_n 0, 1) := by decide +kernel
theorem dX6_init_5 : decode cX6_init 5 = .ok (.new 7, 3) := by decide +kernel
theorem dX6_init_8 : decode cX6_init 8 = .ok (.dup, 1) := by decide +kernel
theorem dX6_init_9 : decode cX6_init 9 = .ok (.invokespecial 9, 3) := by decide +kernel
theorem dX6_init_12 : decode cX6_init 12 = .ok (.putfield 10, 3) := by decide +kernel
theorem dX6_init_15 : decode cX6_init 15 = .ok (.aload_n 0, 1) := by decide +kernel
theorem dX6_init_16 : decode cX6_init 16 = .ok (.new 16, 3) := by decide +kernel
theorem dX6_init_19 : decode cX6_init 19 = .ok (.dup, 1) := by decide +kernel
theorem dX6_init_20 : decode cX6_init 20 = .ok (.invokespecial 18, 3) := by decide +kernel
theorem dX6_init_23 : decode cX6_init 23 = .ok (.putfield 19, 3) := by decide +kernel
theorem dX6_init_26 : decode cX6_init 26 = .ok (.aload_n 0, 1) := by decide +kernel
theorem dX6_init_27 : decode cX6_init 27 = .ok (.new 23, 3) := by decide +kernel
theorem dX6_init_30 : decode cX6_init 30 = .ok (.dup, 1) := by decide +kernel
theorem dX6_init_31 : decode cX6_init 31 = .ok (.invokespecial 25, 3) := by decide +kernel
theorem dX6_init_34 : decode cX6_init 34 = .ok (.putfield 26, 3) := by decide +kernel
theorem dX6_init_37 : decode cX6_init 37 = .ok (.aload_n 0, 1) := by decide +kernel
theorem dX6_init_38 : decode cX6_init 38 = .ok (.new 30, 3) := by decide +kernel
theorem dX6_init_41 : decode cX6_init 41 = .ok (.dup, 1) := by decide +kernel
theorem dX6_init_42 : decode cX6_init 42 = .ok (.invokespecial 32, 3) := by decide +kernel
theorem dX6_init_45 : decode cX6_init 45 = .ok (.putfield 33, 3) := by decide +kernel
theorem dX6_init_48 : decode cX6_init 48 = .ok (.aload_n 0, 1) := by decide +kernel
theorem dX6_init_49 : decode cX6_init 49 = .ok (.new 37, 3) := by decide +kernel
theorem dX6_init_52 : decode cX6_init 52 = .ok (.dup, 1) := by decide +kernel
theorem dX6_init_53 : decode cX6_init 53 = .ok (.invokespecial 39, 3) := by decide +kernel
theorem dX6_init_56 : decode cX6_init 56 = .ok (.putfield 40, 3) := by decide +kernel
theorem dX6_init_59 : decode cX6_init 59 = .ok (.aload_n 0, 1) := by decide +kernel
theorem dX6_init_60 : decode cX6_init 60 = .ok (.new 44, 3) := by decide +kernel
theorem dX6_init_63 : decode cX6_init 63 = .ok (.dup, 1) := by decide +kernel
theorem dX6_init_64 : decode cX6_init 64 = .ok (.invokespecial 46, 3) := by decide +kernel
theorem dX6_init_67 : decode cX6_init 67 = .ok (.putfield 47, 3) := by decide +kernel
theorem dX6_init_70 : decode cX6_init 70 = .ok (.aload_n 0, 1) := by decide +kernel
theorem dX6_init_71 : decode cX6_init 71 = .ok (.iconst 0, 1) := by decide +kernel
theorem dX6_init_72 : decode cX6_init 72 = .ok (.putfield 51, 3) := by decide +kernel
theorem dX6_init_75 : decode cX6_init 75 = .ok (.aload_n 0, 1) := by decide +kernel
theorem dX6_init_76 : decode cX6_init 76 = .ok (.iconst 0, 1) := by decide +kernel
theorem dX6_init_77 : decode cX6_init 77 = .ok (.putfield 55, 3) := by decide +kernel
theorem dX6_init_80 : decode cX6_init 80 = .ok (.aload_n 0, 1) := by decide +kernel
theorem dX6_init_81 : decode cX6_init 81 = .ok (.iconst 0, 1) := by decide +kernel
theorem dX6_init_82 : decode cX6_init 82 = .ok (.putfield 59, 3) := by decide +kernel
theorem dX6_init_85 : decode cX6_init 85 = .ok (.return_, 1) := by decide +kernel
theorem dX6_feed_0 : decode cX6_feed 0 = .ok (.aload_n 0, 1) := by decide +kernel
theorem dX6_feed_1 : decode cX6_feed 1 = .ok (.getfield 10, 3) := by decide +kernel
theorem dX6_feed_4 : decode cX6_feed 4 = .ok (.getfield 62, 3) := by decide +kernel
theorem dX6_feed_7 : decode cX6_feed 7 = .ok (.ifCond .le 5, 3) := by decide +kernel
theorem dX6_feed_10 : decode cX6_feed 10 = .ok (.iconst (-1), 1) := by decide +kernel
theorem dX6_feed_11 : decode cX6_feed 11 = .ok (.ireturn, 1) := by decide +kernel
theorem dX6_feed_12 : decode cX6_feed 12 = .ok (.aload_n 0, 1) := by decide +kernel
theorem dX6_feed_13 : decode cX6_feed 13 = .ok (.getfield 10, 3) := by decide +kernel
theorem dX6_feed_16 : decode cX6_feed 16 = .ok (.iload_n 1, 1) := by decide +kernel
theorem dX6_feed_17 : decode cX6_feed 17 = .ok (.invokevirtual 65, 3) := by decide +kernel
theorem dX6_feed_20 : decode cX6_feed 20 = .ok (.aload_n 0, 1) := by decide +kernel
theorem dX6_feed_21 : decode cX6_feed 21 = .ok (.getfield 10, 3) := by decide +kernel
theorem dX6_feed_24 : decode cX6_feed 24 = .ok (.iload_n 2, 1) := by decide +kernel
theorem dX6_feed_25 : decode cX6_feed 25 = .ok (.invokevirtual 65, 3) := by decide +kernel
theorem dX6_feed_28 : decode cX6_feed 28 = .ok (.aload_n 0, 1) := by decide +kernel
theorem dX6_feed_29 : decode cX6_feed 29 = .ok (.getfield 10, 3) := by decide +kernel
theorem dX6_feed_32 : decode cX6_feed 32 = .ok (.iload_n 3, 1) := by decide +kernel
theorem dX6_feed_33 : decode cX6_feed 33 = .ok (.invokevirtual 65, 3) := by decide +kernel
theorem dX6_feed_36 : decode cX6_feed 36 = .ok (.aload_n 0, 1) := by decide +kernel
theorem dX6_feed_37 : decode cX6_feed 37 = .ok (.getfield 10, 3) := by decide +kernel
theorem dX6_feed_40 : decode cX6_feed 40 = .ok (.iload 4, 2) := by decide +kernel
theorem dX6_feed_42 : decode cX6_feed 42 = .ok (.invokevirtual 65, 3) := by decide +kernel
theorem dX6_feed_45 : decode cX6_feed 45 = .ok (.aload_n 0, 1) := by decide +kernel
theorem dX6_feed_46 : decode cX6_feed 46 = .ok (.getfield 10, 3) := by decide +kernel
theorem dX6_feed_49 : decode cX6_feed 49 = .ok (.iload 5, 2) := by decide +kernel
theorem dX6_feed_51 : decode cX6_feed 51 = .ok (.invokevirtual 65, 3) := by decide +kernel
theorem dX6_feed_54 : decode cX6_feed 54 = .ok (.aload_n 0, 1) := by decide +kernel
theorem dX6_feed_55 : decode cX6_feed 55 = .ok (.getfield 10, 3) := by decide +kernel
theorem dX6_feed_58 : decode cX6_feed 58 = .ok (.getfield 62, 3) := by decide +kernel
theorem dX6_feed_61 : decode cX6_feed 61 = .ok (.ireturn, 1) := by decide +kernel
theorem dX6_end_0 : decode cX6_end 0 = .ok (.iload_n 1, 1) := by decide +kernel
theorem dX6_end_1 : decode cX6_end 1 = .ok (.iconst 0, 1) := by decide +kernel
theorem dX6_end_2 : decode cX6_end 2 = .ok (.aload_n 0, 1) := by decide +kernel
theorem dX6_end_3 : decode cX6_end 3 = .ok (.getfield 10, 3) := by decide +kernel
theorem dX6_end_6 : decode cX6_end 6 = .ok (.getfield 62, 3) := by decide +kernel
theorem dX6_end_9 : decode cX6_end 9 = .ok (.invokestatic 69, 3) := by decide +kernel
theorem dX6_end_12 : decode cX6_end 12 = .ok (.ifCond .ne 5, 3) := by decide +kernel
theorem dX6_end_15 : decode cX6_end 15 = .ok (.iconst (-1), 1) := by decide +kernel
theorem dX6_end_16 : decode cX6_end 16 = .ok (.ireturn, 1) := by decide +kernel
theorem dX6_end_17 : decode cX6_end 17 = .ok (.aload_n 0, 1) := by decide +kernel
theorem dX6_end_18 : decode cX6_end 18 = .ok (.getfield 10, 3) := by decide +kernel
theorem dX6_end_21 : decode cX6_end 21 = .ok (.iload_n 1, 1) := by decide +kernel
theorem dX6_end_22 : decode cX6_end 22 = .ok (.putfield 62, 3) := by decide +kernel
theorem dX6_end_25 : decode cX6_end 25 = .ok (.iload_n 1, 1) := by decide +kernel
theorem dX6_end_26 : decode cX6_end 26 = .ok (.ireturn, 1) := by decide +kernel
theorem dX6_book_0 : decode cX6_book 0 = .ok (.aload_n 0, 1) := by decide +kernel
theorem dX6_book_1 : decode cX6_book 1 = .ok (.getfield 26, 3) := by decide +kernel
theorem dX6_book_4 : decode cX6_book 4 = .ok (.getfield 73, 3) := by decide +kernel
theorem dX6_book_7 : decode cX6_book 7 = .ok (.bipush 60, 2) := by decide +kernel
theorem dX6_book_9 : decode cX6_book 9 = .ok (.if_icmp .ge 33, 3) := by decide +kernel
theorem dX6_book_12 : decode cX6_book 12 = .ok (.iload_n 1, 1) := by decide +kernel
theorem dX6_book_13 : decode cX6_book 13 = .ok (.iconst 0, 1) := by decide +kernel
theorem dX6_book_14 : decode cX6_book 14 = .ok (.iconst 4, 1) := by decide +kernel
theorem dX6_book_15 : decode cX6_book 15 = .ok (.invokestatic 69, 3) := by decide +kernel
theorem dX6_book_18 : decode cX6_book 18 = .ok (.ifCond .eq 24, 3) := by decide +kernel
theorem dX6_book_21 : decode cX6_book 21 = .ok (.iload_n 2, 1) := by decide +kernel
theorem dX6_book_22 : decode cX6_book 22 = .ok (.iconst 1, 1) := by decide +kernel
theorem dX6_book_23 : decode cX6_book 23 = .ok (.sipush 200, 3) := by decide +kernel
theorem dX6_book_26 : decode cX6_book 26 = .ok (.invokestatic 69, 3) := by decide +kernel
theorem dX6_book_29 : decode cX6_book 29 = .ok (.ifCond .eq 13, 3) := by decide +kernel
theorem dX6_book_32 : decode cX6_book 32 = .ok (.iload_n 3, 1) := by decide +kernel
theorem dX6_book_33 : decode cX6_book 33 = .ok (.iconst 1, 1) := by decide +kernel
theorem dX6_book_34 : decode cX6_book 34 = .ok (.bipush 100, 2) := by decide +kernel
theorem dX6_book_36 : decode cX6_book 36 = .ok (.invokestatic 69, 3) := by decide +kernel
theorem dX6_book_39 : decode cX6_book 39 = .ok (.ifCond .ne 5, 3) := by decide +kernel
theorem dX6_book_42 : decode cX6_book 42 = .ok (.iconst (-1), 1) := by decide +kernel
theorem dX6_book_43 : decode cX6_book 43 = .ok (.ireturn, 1) := by decide +kernel
theorem dX6_book_44 : decode cX6_book 44 = .ok (.aload_n 0, 1) := by decide +kernel
theorem dX6_book_45 : decode cX6_book 45 = .ok (.getfield 19, 3) := by decide +kernel
theorem dX6_book_48 : decode cX6_book 48 = .ok (.aload_n 0, 1) := by decide +kernel
theorem dX6_book_49 : decode cX6_book 49 = .ok (.getfield 10, 3) := by decide +kernel
theorem dX6_book_52 : decode cX6_book 52 = .ok (.invokevirtual 74, 3) := by decide +kernel
theorem dX6_book_55 : decode cX6_book 55 = .ok (.aload_n 0, 1) := by decide +kernel
theorem dX6_book_56 : decode cX6_book 56 = .ok (.getfield 10, 3) := by decide +kernel
theorem dX6_book_59 : decode cX6_book 59 = .ok (.iconst 0, 1) := by decide +kernel
theorem dX6_book_60 : decode cX6_book 60 = .ok (.putfield 62, 3) := by decide +kernel
theorem dX6_book_63 : decode cX6_book 63 = .ok (.aload_n 0, 1) := by decide +kernel
theorem dX6_book_64 : decode cX6_book 64 = .ok (.getfield 19, 3) := by decide +kernel
theorem dX6_book_67 : decode cX6_book 67 = .ok (.getfield 78, 3) := by decide +kernel
theorem dX6_book_70 : decode cX6_book 70 = .ok (.iconst (-1), 1) := by decide +kernel
theorem dX6_book_71 : decode cX6_book 71 = .ok (.if_icmp .eq 5, 3) := by decide +kernel
theorem dX6_book_74 : decode cX6_book 74 = .ok (.iconst (-1), 1) := by decide +kernel
theorem dX6_book_75 : decode cX6_book 75 = .ok (.ireturn, 1) := by decide +kernel
theorem dX6_book_76 : decode cX6_book 76 = .ok (.aload_n 0, 1) := by decide +kernel
theorem dX6_book_77 : decode cX6_book 77 = .ok (.invokevirtual 81, 3) := by decide +kernel
theorem dX6_book_80 : decode cX6_book 80 = .ok (.aload_n 0, 1) := by decide +kernel
theorem dX6_book_81 : decode cX6_book 81 = .ok (.getfield 26, 3) := by decide +kernel
theorem dX6_book_84 : decode cX6_book 84 = .ok (.aload_n 0, 1) := by decide +kernel
theorem dX6_book_85 : decode cX6_book 85 = .ok (.getfield 19, 3) := by decide +kernel
theorem dX6_book_88 : decode cX6_book 88 = .ok (.iload_n 1, 1) := by decide +kernel
theorem dX6_book_89 : decode cX6_book 89 = .ok (.iload_n 2, 1) := by decide +kernel
theorem dX6_book_90 : decode cX6_book 90 = .ok (.iload_n 3, 1) := by decide +kernel
theorem dX6_book_91 : decode cX6_book 91 = .ok (.invokevirtual 84, 3) := by decide +kernel
theorem dX6_book_94 : decode cX6_book 94 = .ok (.ireturn, 1) := by decide +kernel
theorem dX6_wrong_0 : decode cX6_wrong 0 = .ok (.aload_n 0, 1) := by decide +kernel
theorem dX6_wrong_1 : decode cX6_wrong 1 = .ok (.getfield 19, 3) := by decide +kernel
theorem dX6_wrong_4 : decode cX6_wrong 4 = .ok (.getfield 78, 3) := by decide +kernel
theorem dX6_wrong_7 : decode cX6_wrong 7 = .ok (.ireturn, 1) := by decide +kernel
theorem dX6_rule_0 : decode cX6_rule 0 = .ok (.iload_n 1, 1) := by decide +kernel
theorem dX6_rule_1 : decode cX6_rule 1 = .ok (.invokestatic 88, 3) := by decide +kernel
theorem dX6_rule_4 : decode cX6_rule 4 = .ok (.ifCond .ne 5, 3) := by decide +kernel
theorem dX6_rule_7 : decode cX6_rule 7 = .ok (.iconst 0, 1) := by decide +kernel
theorem dX6_rule_8 : decode cX6_rule 8 = .ok (.ireturn, 1) := by decide +kernel
theorem dX6_rule_9 : decode cX6_rule 9 = .ok (.aload_n 0, 1) := by decide +kernel
theorem dX6_rule_10 : decode cX6_rule 10 = .ok (.iload_n 1, 1) := by decide +kernel
theorem dX6_rule_11 : decode cX6_rule 11 = .ok (.putfield 51, 3) := by decide +kernel
theorem dX6_rule_14 : decode cX6_rule 14 = .ok (.aload_n 0, 1) := by decide +kernel
theorem dX6_rule_15 : decode cX6_rule 15 = .ok (.invokevirtual 81, 3) := by decide +kernel
theorem dX6_rule_18 : decode cX6_rule 18 = .ok (.iconst 1, 1) := by decide +kernel
theorem dX6_rule_19 : decode cX6_rule 19 = .ok (.ireturn, 1) := by decide +kernel
theorem dX6_compare_0 : decode cX6_compare 0 = .ok (.aload_n 0, 1) := by decide +kernel
theorem dX6_compare_1 : decode cX6_compare 1 = .ok (.getfield 26, 3) := by decide +kernel
theorem dX6_compare_4 : decode cX6_compare 4 = .ok (.iload_n 1, 1) := by decide +kernel
theorem dX6_compare_5 : decode cX6_compare 5 = .ok (.invokevirtual 92, 3) := by decide +kernel
theorem dX6_compare_8 : decode cX6_compare 8 = .ok (.ifCond .eq 21, 3) := by decide +kernel
theorem dX6_compare_11 : decode cX6_compare 11 = .ok (.aload_n 0, 1) := by decide +kernel
theorem dX6_compare_12 : decode cX6_compare 12 = .ok (.getfield 26, 3) := by decide +kernel
theorem dX6_compare_15 : decode cX6_compare 15 = .ok (.iload_n 2, 1) := by decide +kernel
theorem dX6_compare_16 : decode cX6_compare 16 = .ok (.invokevirtual 92, 3) := by decide +kernel
theorem dX6_compare_19 : decode cX6_compare 19 = .ok (.ifCond .eq 10, 3) := by decide +kernel
theorem dX6_compare_22 : decode cX6_compare 22 = .ok (.iload_n 3, 1) := by decide +kernel
theorem dX6_compare_23 : decode cX6_compare 23 = .ok (.invokestatic 88, 3) := by decide +kernel
theorem dX6_compare_26 : decode cX6_compare 26 = .ok (.ifCond .ne 6, 3) := by decide +kernel
theorem dX6_compare_29 : decode cX6_compare 29 = .ok (.bipush (-2), 2) := by decide +kernel
theorem dX6_compare_31 : decode cX6_compare 31 = .ok (.ireturn, 1) := by decide +kernel
theorem dX6_compare_32 : decode cX6_compare 32 = .ok (.aload_n 0, 1) := by decide +kernel
theorem dX6_compare_33 : decode cX6_compare 33 = .ok (.getfield 26, 3) := by decide +kernel
theorem dX6_compare_36 : decode cX6_compare 36 = .ok (.iload_n 1, 1) := by decide +kernel
theorem dX6_compare_37 : decode cX6_compare 37 = .ok (.iload_n 2, 1) := by decide +kernel
theorem dX6_compare_38 : decode cX6_compare 38 = .ok (.iload_n 3, 1) := by decide +kernel
theorem dX6_compare_39 : decode cX6_compare 39 = .ok (.invokevirtual 95, 3) := by decide +kernel
theorem dX6_compare_42 : decode cX6_compare 42 = .ok (.ireturn, 1) := by decide +kernel
theorem dX6_ordered_0 : decode cX6_ordered 0 = .ok (.aload_n 0, 1) := by decide +kernel
theorem dX6_ordered_1 : decode cX6_ordered 1 = .ok (.getfield 26, 3) := by decide +kernel
theorem dX6_ordered_4 : decode cX6_ordered 4 = .ok (.iload_n 1, 1) := by decide +kernel
theorem dX6_ordered_5 : decode cX6_ordered 5 = .ok (.invokevirtual 92, 3) := by decide +kernel
theorem dX6_ordered_8 : decode cX6_ordered 8 = .ok (.ifCond .eq 10, 3) := by decide +kernel
theorem dX6_ordered_11 : decode cX6_ordered 11 = .ok (.iload_n 2, 1) := by decide +kernel
theorem dX6_ordered_12 : decode cX6_ordered 12 = .ok (.invokestatic 88, 3) := by decide +kernel
theorem dX6_ordered_15 : decode cX6_ordered 15 = .ok (.ifCond .ne 5, 3) := by decide +kernel
theorem dX6_ordered_18 : decode cX6_ordered 18 = .ok (.iconst (-1), 1) := by decide +kernel
theorem dX6_ordered_19 : decode cX6_ordered 19 = .ok (.ireturn, 1) := by decide +kernel
theorem dX6_ordered_20 : decode cX6_ordered 20 = .ok (.aload_n 0, 1) := by decide +kernel
theorem dX6_ordered_21 : decode cX6_ordered 21 = .ok (.getfield 26, 3) := by decide +kernel
theorem dX6_ordered_24 : decode cX6_ordered 24 = .ok (.getfield 99, 3) := by decide +kernel
theorem dX6_ordered_27 : decode cX6_ordered 27 = .ok (.iload_n 2, 1) := by decide +kernel
theorem dX6_ordered_28 : decode cX6_ordered 28 = .ok (.aaload, 1) := by decide +kernel
theorem dX6_ordered_29 : decode cX6_ordered 29 = .ok (.iload_n 1, 1) := by decide +kernel
theorem dX6_ordered_30 : decode cX6_ordered 30 = .ok (.iaload, 1) := by decide +kernel
theorem dX6_ordered_31 : decode cX6_ordered 31 = .ok (.ireturn, 1) := by decide +kernel
theorem dX6_quarrels_0 : decode cX6_quarrels 0 = .ok (.aload_n 0, 1) := by decide +kernel
theorem dX6_quarrels_1 : decode cX6_quarrels 1 = .ok (.getfield 26, 3) := by decide +kernel
theorem dX6_quarrels_4 : decode cX6_quarrels 4 = .ok (.getfield 103, 3) := by decide +kernel
theorem dX6_quarrels_7 : decode cX6_quarrels 7 = .ok (.ireturn, 1) := by decide +kernel
theorem dX6_shelf_0 : decode cX6_shelf 0 = .ok (.aload_n 0, 1) := by decide +kernel
theorem dX6_shelf_1 : decode cX6_shelf 1 = .ok (.getfield 33, 3) := by decide +kernel
theorem dX6_shelf_4 : decode cX6_shelf 4 = .ok (.getfield 106, 3) := by decide +kernel
theorem dX6_shelf_7 : decode cX6_shelf 7 = .ok (.bipush 16, 2) := by decide +kernel
theorem dX6_shelf_9 : decode cX6_shelf 9 = .ok (.if_icmp .ge 14, 3) := by decide +kernel
theorem dX6_shelf_12 : decode cX6_shelf 12 = .ok (.iload_n 1, 1) := by decide +kernel
theorem dX6_shelf_13 : decode cX6_shelf 13 = .ok (.iconst 1, 1) := by decide +kernel
theorem dX6_shelf_14 : decode cX6_shelf 14 = .ok (.sipush 2000, 3) := by decide +kernel
theorem dX6_shelf_17 : decode cX6_shelf 17 = .ok (.invokestatic 69, 3) := by decide +kernel
theorem dX6_shelf_20 : decode cX6_shelf 20 = .ok (.ifCond .ne 5, 3) := by decide +kernel
theorem dX6_shelf_23 : decode cX6_shelf 23 = .ok (.iconst (-1), 1) := by decide +kernel
theorem dX6_shelf_24 : decode cX6_shelf 24 = .ok (.ireturn, 1) := by decide +kernel
theorem dX6_shelf_25 : decode cX6_shelf 25 = .ok (.aload_n 0, 1) := by decide +kernel
theorem dX6_shelf_26 : decode cX6_shelf 26 = .ok (.invokevirtual 81, 3) := by decide +kernel
theorem dX6_shelf_29 : decode cX6_shelf 29 = .ok (.aload_n 0, 1) := by decide +kernel
theorem dX6_shelf_30 : decode cX6_shelf 30 = .ok (.getfield 33, 3) := by decide +kernel
theorem dX6_shelf_33 : decode cX6_shelf 33 = .ok (.iload_n 1, 1) := by decide +kernel
theorem dX6_shelf_34 : decode cX6_shelf 34 = .ok (.invokevirtual 107, 3) := by decide +kernel
theorem dX6_shelf_37 : decode cX6_shelf 37 = .ok (.ireturn, 1) := by decide +kernel
theorem dX6_sizes_0 : decode cX6_sizes 0 = .ok (.iload_n 1, 1) := by decide +kernel
theorem dX6_sizes_1 : decode cX6_sizes 1 = .ok (.iconst (-1), 1) := by decide +kernel
theorem dX6_sizes_2 : decode cX6_sizes 2 = .ok (.if_icmp .ne 24, 3) := by decide +kernel
theorem dX6_sizes_5 : decode cX6_sizes 5 = .ok (.iload_n 2, 1) := by decide +kernel
theorem dX6_sizes_6 : decode cX6_sizes 6 = .ok (.iconst 1, 1) := by decide +kernel
theorem dX6_sizes_7 : decode cX6_sizes 7 = .ok (.bipush 100, 2) := by decide +kernel
theorem dX6_sizes_9 : decode cX6_sizes 9 = .ok (.invokestatic 69, 3) := by decide +kernel
theorem dX6_sizes_12 : decode cX6_sizes 12 = .ok (.ifCond .eq 14, 3) := by decide +kernel
theorem dX6_sizes_15 : decode cX6_sizes 15 = .ok (.aload_n 0, 1) := by decide +kernel
theorem dX6_sizes_16 : decode cX6_sizes 16 = .ok (.getfield 33, 3) := by decide +kernel
theorem dX6_sizes_19 : decode cX6_sizes 19 = .ok (.iload_n 2, 1) := by decide +kernel
theorem dX6_sizes_20 : decode cX6_sizes 20 = .ok (.putfield 110, 3) := by decide +kernel
theorem dX6_sizes_23 : decode cX6_sizes 23 = .ok (.goto 66, 3) := by decide +kernel
theorem dX6_sizes_26 : decode cX6_sizes 26 = .ok (.iload_n 1, 1) := by decide +kernel
theorem dX6_sizes_27 : decode cX6_sizes 27 = .ok (.bipush (-2), 2) := by decide +kernel
theorem dX6_sizes_29 : decode cX6_sizes 29 = .ok (.if_icmp .ne 25, 3) := by decide +kernel
theorem dX6_sizes_32 : decode cX6_sizes 32 = .ok (.iload_n 2, 1) := by decide +kernel
theorem dX6_sizes_33 : decode cX6_sizes 33 = .ok (.iconst 1, 1) := by decide +kernel
theorem dX6_sizes_34 : decode cX6_sizes 34 = .ok (.sipush 1000, 3) := by decide +kernel
theorem dX6_sizes_37 : decode cX6_sizes 37 = .ok (.invokestatic 69, 3) := by decide +kernel
theorem dX6_sizes_40 : decode cX6_sizes 40 = .ok (.ifCond .eq 14, 3) := by decide +kernel
theorem dX6_sizes_43 : decode cX6_sizes 43 = .ok (.aload_n 0, 1) := by decide +kernel
theorem dX6_sizes_44 : decode cX6_sizes 44 = .ok (.getfield 40, 3) := by decide +kernel
theorem dX6_sizes_47 : decode cX6_sizes 47 = .ok (.iload_n 2, 1) := by decide +kernel
theorem dX6_sizes_48 : decode cX6_sizes 48 = .ok (.putfield 113, 3) := by decide +kernel
theorem dX6_sizes_51 : decode cX6_sizes 51 = .ok (.goto 38, 3) := by decide +kernel
theorem dX6_sizes_54 : decode cX6_sizes 54 = .ok (.iload_n 1, 1) := by decide +kernel
theorem dX6_sizes_55 : decode cX6_sizes 55 = .ok (.iconst 0, 1) := by decide +kernel
theorem dX6_sizes_56 : decode cX6_sizes 56 = .ok (.bipush 9, 2) := by decide +kernel
theorem dX6_sizes_58 : decode cX6_sizes 58 = .ok (.invokestatic 69, 3) := by decide +kernel
theorem dX6_sizes_61 : decode cX6_sizes 61 = .ok (.ifCond .eq 26, 3) := by decide +kernel
theorem dX6_sizes_64 : decode cX6_sizes 64 = .ok (.iload_n 2, 1) := by decide +kernel
theorem dX6_sizes_65 : decode cX6_sizes 65 = .ok (.iconst 0, 1) := by decide +kernel
theorem dX6_sizes_66 : decode cX6_sizes 66 = .ok (.bipush 100, 2) := by decide +kernel
theorem dX6_sizes_68 : decode cX6_sizes 68 = .ok (.invokestatic 69, 3) := by decide +kernel
theorem dX6_sizes_71 : decode cX6_sizes 71 = .ok (.ifCond .eq 16, 3) := by decide +kernel
theorem dX6_sizes_74 : decode cX6_sizes 74 = .ok (.aload_n 0, 1) := by decide +kernel
theorem dX6_sizes_75 : decode cX6_sizes 75 = .ok (.getfield 33, 3) := by decide +kernel
theorem dX6_sizes_78 : decode cX6_sizes 78 = .ok (.getfield 116, 3) := by decide +kernel
theorem dX6_sizes_81 : decode cX6_sizes 81 = .ok (.iload_n 1, 1) := by decide +kernel
theorem dX6_sizes_82 : decode cX6_sizes 82 = .ok (.iload_n 2, 1) := by decide +kernel
theorem dX6_sizes_83 : decode cX6_sizes 83 = .ok (.iastore, 1) := by decide +kernel
theorem dX6_sizes_84 : decode cX6_sizes 84 = .ok (.goto 5, 3) := by decide +kernel
theorem dX6_sizes_87 : decode cX6_sizes 87 = .ok (.iconst 0, 1) := by decide +kernel
theorem dX6_sizes_88 : decode cX6_sizes 88 = .ok (.ireturn, 1) := by decide +kernel
theorem dX6_sizes_89 : decode cX6_sizes 89 = .ok (.aload_n 0, 1) := by decide +kernel
theorem dX6_sizes_90 : decode cX6_sizes 90 = .ok (.invokevirtual 81, 3) := by decide +kernel
theorem dX6_sizes_93 : decode cX6_sizes 93 = .ok (.iconst 1, 1) := by decide +kernel
theorem dX6_sizes_94 : decode cX6_sizes 94 = .ok (.ireturn, 1) := by decide +kernel
theorem dX6_laid_0 : decode cX6_laid 0 = .ok (.aload_n 0, 1) := by decide +kernel
theorem dX6_laid_1 : decode cX6_laid 1 = .ok (.getfield 26, 3) := by decide +kernel
theorem dX6_laid_4 : decode cX6_laid 4 = .ok (.iload_n 1, 1) := by decide +kernel
theorem dX6_laid_5 : decode cX6_laid 5 = .ok (.invokevirtual 92, 3) := by decide +kernel
theorem dX6_laid_8 : decode cX6_laid 8 = .ok (.ifCond .ne 5, 3) := by decide +kernel
theorem dX6_laid_11 : decode cX6_laid 11 = .ok (.iconst (-1), 1) := by decide +kernel
theorem dX6_laid_12 : decode cX6_laid 12 = .ok (.ireturn, 1) := by decide +kernel
theorem dX6_laid_13 : decode cX6_laid 13 = .ok (.aload_n 0, 1) := by decide +kernel
theorem dX6_laid_14 : decode cX6_laid 14 = .ok (.invokevirtual 120, 3) := by decide +kernel
theorem dX6_laid_17 : decode cX6_laid 17 = .ok (.iload_n 2, 1) := by decide +kernel
theorem dX6_laid_18 : decode cX6_laid 18 = .ok (.lookupswitch 46 #[(0, 26), (1, 36)], 26) := by decide +kernel
theorem dX6_laid_44 : decode cX6_laid 44 = .ok (.aload_n 0, 1) := by decide +kernel
theorem dX6_laid_45 : decode cX6_laid 45 = .ok (.getfield 33, 3) := by decide +kernel
theorem dX6_laid_48 : decode cX6_laid 48 = .ok (.getfield 123, 3) := by decide +kernel
theorem dX6_laid_51 : decode cX6_laid 51 = .ok (.iload_n 1, 1) := by decide +kernel
theorem dX6_laid_52 : decode cX6_laid 52 = .ok (.iaload, 1) := by decide +kernel
theorem dX6_laid_53 : decode cX6_laid 53 = .ok (.ireturn, 1) := by decide +kernel
theorem dX6_laid_54 : decode cX6_laid 54 = .ok (.aload_n 0, 1) := by decide +kernel
theorem dX6_laid_55 : decode cX6_laid 55 = .ok (.getfield 33, 3) := by decide +kernel
theorem dX6_laid_58 : decode cX6_laid 58 = .ok (.getfield 126, 3) := by decide +kernel
theorem dX6_laid_61 : decode cX6_laid 61 = .ok (.iload_n 1, 1) := by decide +kernel
theorem dX6_laid_62 : decode cX6_laid 62 = .ok (.iaload, 1) := by decide +kernel
theorem dX6_laid_63 : decode cX6_laid 63 = .ok (.ireturn, 1) := by decide +kernel
theorem dX6_laid_64 : decode cX6_laid 64 = .ok (.iconst (-1), 1) := by decide +kernel
theorem dX6_laid_65 : decode cX6_laid 65 = .ok (.ireturn, 1) := by decide +kernel
theorem dX6_shelfOf_0 : decode cX6_shelfOf 0 = .ok (.iload_n 1, 1) := by decide +kernel
theorem dX6_shelfOf_1 : decode cX6_shelfOf 1 = .ok (.iconst 0, 1) := by decide +kernel
theorem dX6_shelfOf_2 : decode cX6_shelfOf 2 = .ok (.aload_n 0, 1) := by decide +kernel
theorem dX6_shelfOf_3 : decode cX6_shelfOf 3 = .ok (.getfield 33, 3) := by decide +kernel
theorem dX6_shelfOf_6 : decode cX6_shelfOf 6 = .ok (.getfield 106, 3) := by decide +kernel
theorem dX6_shelfOf_9 : decode cX6_shelfOf 9 = .ok (.iconst 1, 1) := by decide +kernel
theorem dX6_shelfOf_10 : decode cX6_shelfOf 10 = .ok (.isub, 1) := by decide +kernel
theorem dX6_shelfOf_11 : decode cX6_shelfOf 11 = .ok (.invokestatic 69, 3) := by decide +kernel
theorem dX6_shelfOf_14 : decode cX6_shelfOf 14 = .ok (.ifCond .ne 5, 3) := by decide +kernel
theorem dX6_shelfOf_17 : decode cX6_shelfOf 17 = .ok (.iconst (-1), 1) := by decide +kernel
theorem dX6_shelfOf_18 : decode cX6_shelfOf 18 = .ok (.ireturn, 1) := by decide +kernel
theorem dX6_shelfOf_19 : decode cX6_shelfOf 19 = .ok (.aload_n 0, 1) := by decide +kernel
theorem dX6_shelfOf_20 : decode cX6_shelfOf 20 = .ok (.invokevirtual 120, 3) := by decide +kernel
theorem dX6_shelfOf_23 : decode cX6_shelfOf 23 = .ok (.iload_n 2, 1) := by decide +kernel
theorem dX6_shelfOf_24 : decode cX6_shelfOf 24 = .ok (.lookupswitch 57 #[(0, 28), (1, 38)], 28) := by decide +kernel
theorem dX6_shelfOf_52 : decode cX6_shelfOf 52 = .ok (.aload_n 0, 1) := by decide +kernel
theorem dX6_shelfOf_53 : decode cX6_shelfOf 53 = .ok (.getfield 33, 3) := by decide +kernel
theorem dX6_shelfOf_56 : decode cX6_shelfOf 56 = .ok (.getfield 129, 3) := by decide +kernel
theorem dX6_shelfOf_59 : decode cX6_shelfOf 59 = .ok (.iload_n 1, 1) := by decide +kernel
theorem dX6_shelfOf_60 : decode cX6_shelfOf 60 = .ok (.iaload, 1) := by decide +kernel
theorem dX6_shelfOf_61 : decode cX6_shelfOf 61 = .ok (.ireturn, 1) := by decide +kernel
theorem dX6_shelfOf_62 : decode cX6_shelfOf 62 = .ok (.aload_n 0, 1) := by decide +kernel
theorem dX6_shelfOf_63 : decode cX6_shelfOf 63 = .ok (.getfield 33, 3) := by decide +kernel
theorem dX6_shelfOf_66 : decode cX6_shelfOf 66 = .ok (.iload_n 1, 1) := by decide +kernel
theorem dX6_shelfOf_67 : decode cX6_shelfOf 67 = .ok (.invokevirtual 132, 3) := by decide +kernel
theorem dX6_shelfOf_70 : decode cX6_shelfOf 70 = .ok (.aload_n 0, 1) := by decide +kernel
theorem dX6_shelfOf_71 : decode cX6_shelfOf 71 = .ok (.getfield 33, 3) := by decide +kernel
theorem dX6_shelfOf_74 : decode cX6_shelfOf 74 = .ok (.getfield 135, 3) := by decide +kernel
theorem dX6_shelfOf_77 : decode cX6_shelfOf 77 = .ok (.iload_n 1, 1) := by decide +kernel
theorem dX6_shelfOf_78 : decode cX6_shelfOf 78 = .ok (.iaload, 1) := by decide +kernel
theorem dX6_shelfOf_79 : decode cX6_shelfOf 79 = .ok (.isub, 1) := by decide +kernel
theorem dX6_shelfOf_80 : decode cX6_shelfOf 80 = .ok (.ireturn, 1) := by decide +kernel
theorem dX6_shelfOf_81 : decode cX6_shelfOf 81 = .ok (.iconst (-1), 1) := by decide +kernel
theorem dX6_shelfOf_82 : decode cX6_shelfOf 82 = .ok (.ireturn, 1) := by decide +kernel
theorem dX6_counts_0 : decode cX6_counts 0 = .ok (.aload_n 0, 1) := by decide +kernel
theorem dX6_counts_1 : decode cX6_counts 1 = .ok (.invokevirtual 120, 3) := by decide +kernel
theorem dX6_counts_4 : decode cX6_counts 4 = .ok (.iload_n 1, 1) := by decide +kernel
theorem dX6_counts_5 : decode cX6_counts 5 = .ok (.tableswitch 51 0 2 #[27, 35, 43], 27) := by decide +kernel
theorem dX6_counts_32 : decode cX6_counts 32 = .ok (.aload_n 0, 1) := by decide +kernel
theorem dX6_counts_33 : decode cX6_counts 33 = .ok (.getfield 33, 3) := by decide +kernel
theorem dX6_counts_36 : decode cX6_counts 36 = .ok (.getfield 138, 3) := by decide +kernel
theorem dX6_counts_39 : decode cX6_counts 39 = .ok (.ireturn, 1) := by decide +kernel
theorem dX6_counts_40 : decode cX6_counts 40 = .ok (.aload_n 0, 1) := by decide +kernel
theorem dX6_counts_41 : decode cX6_counts 41 = .ok (.getfield 33, 3) := by decide +kernel
theorem dX6_counts_44 : decode cX6_counts 44 = .ok (.getfield 141, 3) := by decide +kernel
theorem dX6_counts_47 : decode cX6_counts 47 = .ok (.ireturn, 1) := by decide +kernel
theorem dX6_counts_48 : decode cX6_counts 48 = .ok (.aload_n 0, 1) := by decide +kernel
theorem dX6_counts_49 : decode cX6_counts 49 = .ok (.getfield 40, 3) := by decide +kernel
theorem dX6_counts_52 : decode cX6_counts 52 = .ok (.getfield 144, 3) := by decide +kernel
theorem dX6_counts_55 : decode cX6_counts 55 = .ok (.ireturn, 1) := by decide +kernel
theorem dX6_counts_56 : decode cX6_counts 56 = .ok (.iconst (-1), 1) := by decide +kernel
theorem dX6_counts_57 : decode cX6_counts 57 = .ok (.ireturn, 1) := by decide +kernel
theorem dX6_way_0 : decode cX6_way 0 = .ok (.iload_n 1, 1) := by decide +kernel
theorem dX6_way_1 : decode cX6_way 1 = .ok (.iconst 0, 1) := by decide +kernel
theorem dX6_way_2 : decode cX6_way 2 = .ok (.iconst 4, 1) := by decide +kernel
theorem dX6_way_3 : decode cX6_way 3 = .ok (.invokestatic 69, 3) := by decide +kernel
theorem dX6_way_6 : decode cX6_way 6 = .ok (.ifCond .eq 13, 3) := by decide +kernel
theorem dX6_way_9 : decode cX6_way 9 = .ok (.iload_n 2, 1) := by decide +kernel
theorem dX6_way_10 : decode cX6_way 10 = .ok (.iconst 1, 1) := by decide +kernel
theorem dX6_way_11 : decode cX6_way 11 = .ok (.bipush 100, 2) := by decide +kernel
theorem dX6_way_13 : decode cX6_way 13 = .ok (.invokestatic 69, 3) := by decide +kernel
theorem dX6_way_16 : decode cX6_way 16 = .ok (.ifCond .ne 5, 3) := by decide +kernel
theorem dX6_way_19 : decode cX6_way 19 = .ok (.iconst 0, 1) := by decide +kernel
theorem dX6_way_20 : decode cX6_way 20 = .ok (.ireturn, 1) := by decide +kernel
theorem dX6_way_21 : decode cX6_way 21 = .ok (.aload_n 0, 1) := by decide +kernel
theorem dX6_way_22 : decode cX6_way 22 = .ok (.getfield 40, 3) := by decide +kernel
theorem dX6_way_25 : decode cX6_way 25 = .ok (.getfield 145, 3) := by decide +kernel
theorem dX6_way_28 : decode cX6_way 28 = .ok (.iload_n 1, 1) := by decide +kernel
theorem dX6_way_29 : decode cX6_way 29 = .ok (.iload_n 2, 1) := by decide +kernel
theorem dX6_way_30 : decode cX6_way 30 = .ok (.iastore, 1) := by decide +kernel
theorem dX6_way_31 : decode cX6_way 31 = .ok (.aload_n 0, 1) := by decide +kernel
theorem dX6_way_32 : decode cX6_way 32 = .ok (.invokevirtual 81, 3) := by decide +kernel
theorem dX6_way_35 : decode cX6_way 35 = .ok (.iconst 1, 1) := by decide +kernel
theorem dX6_way_36 : decode cX6_way 36 = .ok (.ireturn, 1) := by decide +kernel
theorem dX6_crate_0 : decode cX6_crate 0 = .ok (.aload_n 0, 1) := by decide +kernel
theorem dX6_crate_1 : decode cX6_crate 1 = .ok (.invokevirtual 120, 3) := by decide +kernel
theorem dX6_crate_4 : decode cX6_crate 4 = .ok (.iload_n 1, 1) := by decide +kernel
theorem dX6_crate_5 : decode cX6_crate 5 = .ok (.iconst 0, 1) := by decide +kernel
theorem dX6_crate_6 : decode cX6_crate 6 = .ok (.aload_n 0, 1) := by decide +kernel
theorem dX6_crate_7 : decode cX6_crate 7 = .ok (.getfield 40, 3) := by decide +kernel
theorem dX6_crate_10 : decode cX6_crate 10 = .ok (.getfield 144, 3) := by decide +kernel
theorem dX6_crate_13 : decode cX6_crate 13 = .ok (.iconst 1, 1) := by decide +kernel
theorem dX6_crate_14 : decode cX6_crate 14 = .ok (.isub, 1) := by decide +kernel
theorem dX6_crate_15 : decode cX6_crate 15 = .ok (.invokestatic 69, 3) := by decide +kernel
theorem dX6_crate_18 : decode cX6_crate 18 = .ok (.ifCond .ne 5, 3) := by decide +kernel
theorem dX6_crate_21 : decode cX6_crate 21 = .ok (.iconst (-1), 1) := by decide +kernel
theorem dX6_crate_22 : decode cX6_crate 22 = .ok (.ireturn, 1) := by decide +kernel
theorem dX6_crate_23 : decode cX6_crate 23 = .ok (.iload_n 2, 1) := by decide +kernel
theorem dX6_crate_24 : decode cX6_crate 24 = .ok (.tableswitch 107 0 5 #[40, 50, 60, 70, 80, 90], 40) := by decide +kernel
theorem dX6_crate_64 : decode cX6_crate 64 = .ok (.aload_n 0, 1) := by decide +kernel
theorem dX6_crate_65 : decode cX6_crate 65 = .ok (.getfield 40, 3) := by decide +kernel
theorem dX6_crate_68 : decode cX6_crate 68 = .ok (.getfield 148, 3) := by decide +kernel
theorem dX6_crate_71 : decode cX6_crate 71 = .ok (.iload_n 1, 1) := by decide +kernel
theorem dX6_crate_72 : decode cX6_crate 72 = .ok (.iaload, 1) := by decide +kernel
theorem dX6_crate_73 : decode cX6_crate 73 = .ok (.ireturn, 1) := by decide +kernel
theorem dX6_crate_74 : decode cX6_crate 74 = .ok (.aload_n 0, 1) := by decide +kernel
theorem dX6_crate_75 : decode cX6_crate 75 = .ok (.getfield 40, 3) := by decide +kernel
theorem dX6_crate_78 : decode cX6_crate 78 = .ok (.getfield 151, 3) := by decide +kernel
theorem dX6_crate_81 : decode cX6_crate 81 = .ok (.iload_n 1, 1) := by decide +kernel
theorem dX6_crate_82 : decode cX6_crate 82 = .ok (.iaload, 1) := by decide +kernel
theorem dX6_crate_83 : decode cX6_crate 83 = .ok (.ireturn, 1) := by decide +kernel
theorem dX6_crate_84 : decode cX6_crate 84 = .ok (.aload_n 0, 1) := by decide +kernel
theorem dX6_crate_85 : decode cX6_crate 85 = .ok (.getfield 40, 3) := by decide +kernel
theorem dX6_crate_88 : decode cX6_crate 88 = .ok (.getfield 154, 3) := by decide +kernel
theorem dX6_crate_91 : decode cX6_crate 91 = .ok (.iload_n 1, 1) := by decide +kernel
theorem dX6_crate_92 : decode cX6_crate 92 = .ok (.iaload, 1) := by decide +kernel
theorem dX6_crate_93 : decode cX6_crate 93 = .ok (.ireturn, 1) := by decide +kernel
theorem dX6_crate_94 : decode cX6_crate 94 = .ok (.aload_n 0, 1) := by decide +kernel
theorem dX6_crate_95 : decode cX6_crate 95 = .ok (.getfield 40, 3) := by decide +kernel
theorem dX6_crate_98 : decode cX6_crate 98 = .ok (.getfield 157, 3) := by decide +kernel
theorem dX6_crate_101 : decode cX6_crate 101 = .ok (.iload_n 1, 1) := by decide +kernel
theorem dX6_crate_102 : decode cX6_crate 102 = .ok (.iaload, 1) := by decide +kernel
theorem dX6_crate_103 : decode cX6_crate 103 = .ok (.ireturn, 1) := by decide +kernel
theorem dX6_crate_104 : decode cX6_crate 104 = .ok (.aload_n 0, 1) := by decide +kernel
theorem dX6_crate_105 : decode cX6_crate 105 = .ok (.getfield 40, 3) := by decide +kernel
theorem dX6_crate_108 : decode cX6_crate 108 = .ok (.getfield 160, 3) := by decide +kernel
theorem dX6_crate_111 : decode cX6_crate 111 = .ok (.iload_n 1, 1) := by decide +kernel
theorem dX6_crate_112 : decode cX6_crate 112 = .ok (.iaload, 1) := by decide +kernel
theorem dX6_crate_113 : decode cX6_crate 113 = .ok (.ireturn, 1) := by decide +kernel
theorem dX6_crate_114 : decode cX6_crate 114 = .ok (.iload_n 1, 1) := by decide +kernel
theorem dX6_crate_115 : decode cX6_crate 115 = .ok (.aload_n 0, 1) := by decide +kernel
theorem dX6_crate_116 : decode cX6_crate 116 = .ok (.getfield 40, 3) := by decide +kernel
theorem dX6_crate_119 : decode cX6_crate 119 = .ok (.getfield 163, 3) := by decide +kernel
theorem dX6_crate_122 : decode cX6_crate 122 = .ok (.if_icmp .ge 7, 3) := by decide +kernel
theorem dX6_crate_125 : decode cX6_crate 125 = .ok (.iconst 0, 1) := by decide +kernel
theorem dX6_crate_126 : decode cX6_crate 126 = .ok (.goto 4, 3) := by decide +kernel
theorem dX6_crate_129 : decode cX6_crate 129 = .ok (.iconst 1, 1) := by decide +kernel
theorem dX6_crate_130 : decode cX6_crate 130 = .ok (.ireturn, 1) := by decide +kernel
theorem dX6_crate_131 : decode cX6_crate 131 = .ok (.iconst (-1), 1) := by decide +kernel
theorem dX6_crate_132 : decode cX6_crate 132 = .ok (.ireturn, 1) := by decide +kernel
theorem dX6_meeting_0 : decode cX6_meeting 0 = .ok (.aload_n 0, 1) := by decide +kernel
theorem dX6_meeting_1 : decode cX6_meeting 1 = .ok (.invokevirtual 120, 3) := by decide +kernel
theorem dX6_meeting_4 : decode cX6_meeting 4 = .ok (.iload_n 1, 1) := by decide +kernel
theorem dX6_meeting_5 : decode cX6_meeting 5 = .ok (.lookupswitch 43 #[(0, 27), (1, 35)], 27) := by decide +kernel
theorem dX6_meeting_32 : decode cX6_meeting 32 = .ok (.aload_n 0, 1) := by decide +kernel
theorem dX6_meeting_33 : decode cX6_meeting 33 = .ok (.getfield 40, 3) := by decide +kernel
theorem dX6_meeting_36 : decode cX6_meeting 36 = .ok (.getfield 163, 3) := by decide +kernel
theorem dX6_meeting_39 : decode cX6_meeting 39 = .ok (.ireturn, 1) := by decide +kernel
theorem dX6_meeting_40 : decode cX6_meeting 40 = .ok (.aload_n 0, 1) := by decide +kernel
theorem dX6_meeting_41 : decode cX6_meeting 41 = .ok (.getfield 40, 3) := by decide +kernel
theorem dX6_meeting_44 : decode cX6_meeting 44 = .ok (.getfield 166, 3) := by decide +kernel
theorem dX6_meeting_47 : decode cX6_meeting 47 = .ok (.ireturn, 1) := by decide +kernel
theorem dX6_meeting_48 : decode cX6_meeting 48 = .ok (.iconst (-1), 1) := by decide +kernel
theorem dX6_meeting_49 : decode cX6_meeting 49 = .ok (.ireturn, 1) := by decide +kernel
theorem dX6_where_0 : decode cX6_where 0 = .ok (.aload_n 0, 1) := by decide +kernel
theorem dX6_where_1 : decode cX6_where 1 = .ok (.getfield 26, 3) := by decide +kernel
theorem dX6_where_4 : decode cX6_where 4 = .ok (.iload_n 1, 1) := by decide +kernel
theorem dX6_where_5 : decode cX6_where 5 = .ok (.invokevirtual 92, 3) := by decide +kernel
theorem dX6_where_8 : decode cX6_where 8 = .ok (.ifCond .eq 13, 3) := by decide +kernel
theorem dX6_where_11 : decode cX6_where 11 = .ok (.iload_n 2, 1) := by decide +kernel
theorem dX6_where_12 : decode cX6_where 12 = .ok (.iconst 0, 1) := by decide +kernel
theorem dX6_where_13 : decode cX6_where 13 = .ok (.ldc 169, 2) := by decide +kernel
theorem dX6_where_15 : decode cX6_where 15 = .ok (.invokestatic 69, 3) := by decide +kernel
theorem dX6_where_18 : decode cX6_where 18 = .ok (.ifCond .ne 5, 3) := by decide +kernel
theorem dX6_where_21 : decode cX6_where 21 = .ok (.iconst (-1), 1) := by decide +kernel
theorem dX6_where_22 : decode cX6_where 22 = .ok (.ireturn, 1) := by decide +kernel
theorem dX6_where_23 : decode cX6_where 23 = .ok (.aload_n 0, 1) := by decide +kernel
theorem dX6_where_24 : decode cX6_where 24 = .ok (.invokevirtual 120, 3) := by decide +kernel
theorem dX6_where_27 : decode cX6_where 27 = .ok (.iload_n 3, 1) := by decide +kernel
theorem dX6_where_28 : decode cX6_where 28 = .ok (.tableswitch 58 0 2 #[28, 38, 48], 28) := by decide +kernel
theorem dX6_where_56 : decode cX6_where 56 = .ok (.aload_n 0, 1) := by decide +kernel
theorem dX6_where_57 : decode cX6_where 57 = .ok (.getfield 40, 3) := by decide +kernel
theorem dX6_where_60 : decode cX6_where 60 = .ok (.iload_n 1, 1) := by decide +kernel
theorem dX6_where_61 : decode cX6_where 61 = .ok (.iload_n 2, 1) := by decide +kernel
theorem dX6_where_62 : decode cX6_where 62 = .ok (.invokevirtual 170, 3) := by decide +kernel
theorem dX6_where_65 : decode cX6_where 65 = .ok (.ireturn, 1) := by decide +kernel
theorem dX6_where_66 : decode cX6_where 66 = .ok (.aload_n 0, 1) := by decide +kernel
theorem dX6_where_67 : decode cX6_where 67 = .ok (.getfield 40, 3) := by decide +kernel
theorem dX6_where_70 : decode cX6_where 70 = .ok (.iload_n 1, 1) := by decide +kernel
theorem dX6_where_71 : decode cX6_where 71 = .ok (.iload_n 2, 1) := by decide +kernel
theorem dX6_where_72 : decode cX6_where 72 = .ok (.invokevirtual 174, 3) := by decide +kernel
theorem dX6_where_75 : decode cX6_where 75 = .ok (.ireturn, 1) := by decide +kernel
theorem dX6_where_76 : decode cX6_where 76 = .ok (.aload_n 0, 1) := by decide +kernel
theorem dX6_where_77 : decode cX6_where 77 = .ok (.getfield 40, 3) := by decide +kernel
theorem dX6_where_80 : decode cX6_where 80 = .ok (.getfield 177, 3) := by decide +kernel
theorem dX6_where_83 : decode cX6_where 83 = .ok (.iload_n 1, 1) := by decide +kernel
theorem dX6_where_84 : decode cX6_where 84 = .ok (.iaload, 1) := by decide +kernel
theorem dX6_where_85 : decode cX6_where 85 = .ok (.ireturn, 1) := by decide +kernel
theorem dX6_where_86 : decode cX6_where 86 = .ok (.iconst (-1), 1) := by decide +kernel
theorem dX6_where_87 : decode cX6_where 87 = .ok (.ireturn, 1) := by decide +kernel
theorem dX6_row_0 : decode cX6_row 0 = .ok (.aload_n 0, 1) := by decide +kernel
theorem dX6_row_1 : decode cX6_row 1 = .ok (.invokevirtual 120, 3) := by decide +kernel
theorem dX6_row_4 : decode cX6_row 4 = .ok (.aload_n 0, 1) := by decide +kernel
theorem dX6_row_5 : decode cX6_row 5 = .ok (.getfield 47, 3) := by decide +kernel
theorem dX6_row_8 : decode cX6_row 8 = .ok (.aload_n 0, 1) := by decide +kernel
theorem dX6_row_9 : decode cX6_row 9 = .ok (.getfield 26, 3) := by decide +kernel
theorem dX6_row_12 : decode cX6_row 12 = .ok (.getfield 99, 3) := by decide +kernel
theorem dX6_row_15 : decode cX6_row 15 = .ok (.aload_n 0, 1) := by decide +kernel
theorem dX6_row_16 : decode cX6_row 16 = .ok (.getfield 51, 3) := by decide +kernel
theorem dX6_row_19 : decode cX6_row 19 = .ok (.aaload, 1) := by decide +kernel
theorem dX6_row_20 : decode cX6_row 20 = .ok (.aload_n 0, 1) := by decide +kernel
theorem dX6_row_21 : decode cX6_row 21 = .ok (.getfield 26, 3) := by decide +kernel
theorem dX6_row_24 : decode cX6_row 24 = .ok (.getfield 73, 3) := by decide +kernel
theorem dX6_row_27 : decode cX6_row 27 = .ok (.aload_n 0, 1) := by decide +kernel
theorem dX6_row_28 : decode cX6_row 28 = .ok (.getfield 33, 3) := by decide +kernel
theorem dX6_row_31 : decode cX6_row 31 = .ok (.getfield 123, 3) := by decide +kernel
theorem dX6_row_34 : decode cX6_row 34 = .ok (.invokevirtual 180, 3) := by decide +kernel
theorem dX6_row_37 : decode cX6_row 37 = .ok (.aload_n 0, 1) := by decide +kernel
theorem dX6_row_38 : decode cX6_row 38 = .ok (.iconst 0, 1) := by decide +kernel
theorem dX6_row_39 : decode cX6_row 39 = .ok (.putfield 59, 3) := by decide +kernel
theorem dX6_row_42 : decode cX6_row 42 = .ok (.aload_n 0, 1) := by decide +kernel
theorem dX6_row_43 : decode cX6_row 43 = .ok (.getfield 47, 3) := by decide +kernel
theorem dX6_row_46 : decode cX6_row 46 = .ok (.getfield 184, 3) := by decide +kernel
theorem dX6_row_49 : decode cX6_row 49 = .ok (.ireturn, 1) := by decide +kernel
theorem dX6_at_0 : decode cX6_at 0 = .ok (.aload_n 0, 1) := by decide +kernel
theorem dX6_at_1 : decode cX6_at 1 = .ok (.getfield 47, 3) := by decide +kernel
theorem dX6_at_4 : decode cX6_at 4 = .ok (.iload_n 1, 1) := by decide +kernel
theorem dX6_at_5 : decode cX6_at 5 = .ok (.invokevirtual 185, 3) := by decide +kernel
theorem dX6_at_8 : decode cX6_at 8 = .ok (.ifCond .eq 15, 3) := by decide +kernel
theorem dX6_at_11 : decode cX6_at 11 = .ok (.aload_n 0, 1) := by decide +kernel
theorem dX6_at_12 : decode cX6_at 12 = .ok (.getfield 47, 3) := by decide +kernel
theorem dX6_at_15 : decode cX6_at 15 = .ok (.getfield 186, 3) := by decide +kernel
theorem dX6_at_18 : decode cX6_at 18 = .ok (.iload_n 1, 1) := by decide +kernel
theorem dX6_at_19 : decode cX6_at 19 = .ok (.iaload, 1) := by decide +kernel
theorem dX6_at_20 : decode cX6_at 20 = .ok (.goto 4, 3) := by decide +kernel
theorem dX6_at_23 : decode cX6_at 23 = .ok (.iconst (-1), 1) := by decide +kernel
theorem dX6_at_24 : decode cX6_at 24 = .ok (.ireturn, 1) := by decide +kernel
theorem dX6_misplace_0 : decode cX6_misplace 0 = .ok (.aload_n 0, 1) := by decide +kernel
theorem dX6_misplace_1 : decode cX6_misplace 1 = .ok (.getfield 47, 3) := by decide +kernel
theorem dX6_misplace_4 : decode cX6_misplace 4 = .ok (.iload_n 1, 1) := by decide +kernel
theorem dX6_misplace_5 : decode cX6_misplace 5 = .ok (.invokevirtual 185, 3) := by decide +kernel
theorem dX6_misplace_8 : decode cX6_misplace 8 = .ok (.ifCond .eq 19, 3) := by decide +kernel
theorem dX6_misplace_11 : decode cX6_misplace 11 = .ok (.aload_n 0, 1) := by decide +kernel
theorem dX6_misplace_12 : decode cX6_misplace 12 = .ok (.getfield 47, 3) := by decide +kernel
theorem dX6_misplace_15 : decode cX6_misplace 15 = .ok (.iload_n 2, 1) := by decide +kernel
theorem dX6_misplace_16 : decode cX6_misplace 16 = .ok (.invokevirtual 185, 3) := by decide +kernel
theorem dX6_misplace_19 : decode cX6_misplace 19 = .ok (.ifCond .eq 8, 3) := by decide +kernel
theorem dX6_misplace_22 : decode cX6_misplace 22 = .ok (.iload_n 1, 1) := by decide +kernel
theorem dX6_misplace_23 : decode cX6_misplace 23 = .ok (.iload_n 2, 1) := by decide +kernel
theorem dX6_misplace_24 : decode cX6_misplace 24 = .ok (.if_icmp .ne 5, 3) := by decide +kernel
theorem dX6_misplace_27 : decode cX6_misplace 27 = .ok (.iconst 0, 1) := by decide +kernel
theorem dX6_misplace_28 : decode cX6_misplace 28 = .ok (.ireturn, 1) := by decide +kernel
theorem dX6_misplace_29 : decode cX6_misplace 29 = .ok (.aload_n 0, 1) := by decide +kernel
theorem dX6_misplace_30 : decode cX6_misplace 30 = .ok (.getfield 47, 3) := by decide +kernel
theorem dX6_misplace_33 : decode cX6_misplace 33 = .ok (.iload_n 1, 1) := by decide +kernel
theorem dX6_misplace_34 : decode cX6_misplace 34 = .ok (.iload_n 2, 1) := by decide +kernel
theorem dX6_misplace_35 : decode cX6_misplace 35 = .ok (.invokevirtual 189, 3) := by decide +kernel
theorem dX6_misplace_38 : decode cX6_misplace 38 = .ok (.aload_n 0, 1) := by decide +kernel
theorem dX6_misplace_39 : decode cX6_misplace 39 = .ok (.iconst 0, 1) := by decide +kernel
theorem dX6_misplace_40 : decode cX6_misplace 40 = .ok (.putfield 59, 3) := by decide +kernel
theorem dX6_misplace_43 : decode cX6_misplace 43 = .ok (.iconst 1, 1) := by decide +kernel
theorem dX6_misplace_44 : decode cX6_misplace 44 = .ok (.ireturn, 1) := by decide +kernel
theorem dX6_takenOut_0 : decode cX6_takenOut 0 = .ok (.aload_n 0, 1) := by decide +kernel
theorem dX6_takenOut_1 : decode cX6_takenOut 1 = .ok (.invokevirtual 193, 3) := by decide +kernel
theorem dX6_takenOut_4 : decode cX6_takenOut 4 = .ok (.aload_n 0, 1) := by decide +kernel
theorem dX6_takenOut_5 : decode cX6_takenOut 5 = .ok (.getfield 47, 3) := by decide +kernel
theorem dX6_takenOut_8 : decode cX6_takenOut 8 = .ok (.getfield 196, 3) := by decide +kernel
theorem dX6_takenOut_11 : decode cX6_takenOut 11 = .ok (.ireturn, 1) := by decide +kernel
theorem dX6_isOut_0 : decode cX6_isOut 0 = .ok (.aload_n 0, 1) := by decide +kernel
theorem dX6_isOut_1 : decode cX6_isOut 1 = .ok (.getfield 47, 3) := by decide +kernel
theorem dX6_isOut_4 : decode cX6_isOut 4 = .ok (.iload_n 1, 1) := by decide +kernel
theorem dX6_isOut_5 : decode cX6_isOut 5 = .ok (.invokevirtual 185, 3) := by decide +kernel
theorem dX6_isOut_8 : decode cX6_isOut 8 = .ok (.ifCond .ne 5, 3) := by decide +kernel
theorem dX6_isOut_11 : decode cX6_isOut 11 = .ok (.iconst (-1), 1) := by decide +kernel
theorem dX6_isOut_12 : decode cX6_isOut 12 = .ok (.ireturn, 1) := by decide +kernel
theorem dX6_isOut_13 : decode cX6_isOut 13 = .ok (.aload_n 0, 1) := by decide +kernel
theorem dX6_isOut_14 : decode cX6_isOut 14 = .ok (.invokevirtual 193, 3) := by decide +kernel
theorem dX6_isOut_17 : decode cX6_isOut 17 = .ok (.aload_n 0, 1) := by decide +kernel
theorem dX6_isOut_18 : decode cX6_isOut 18 = .ok (.getfield 47, 3) := by decide +kernel
theorem dX6_isOut_21 : decode cX6_isOut 21 = .ok (.getfield 199, 3) := by decide +kernel
theorem dX6_isOut_24 : decode cX6_isOut 24 = .ok (.iload_n 1, 1) := by decide +kernel
theorem dX6_isOut_25 : decode cX6_isOut 25 = .ok (.baload, 1) := by decide +kernel
theorem dX6_isOut_26 : decode cX6_isOut 26 = .ok (.ifCond .eq 7, 3) := by decide +kernel
theorem dX6_isOut_29 : decode cX6_isOut 29 = .ok (.iconst 1, 1) := by decide +kernel
theorem dX6_isOut_30 : decode cX6_isOut 30 = .ok (.goto 4, 3) := by decide +kernel
theorem dX6_isOut_33 : decode cX6_isOut 33 = .ok (.iconst 0, 1) := by decide +kernel
theorem dX6_isOut_34 : decode cX6_isOut 34 = .ok (.ireturn, 1) := by decide +kernel
theorem dX6_drawn_0 : decode cX6_drawn 0 = .ok (.aload_n 0, 1) := by decide +kernel
theorem dX6_drawn_1 : decode cX6_drawn 1 = .ok (.getfield 47, 3) := by decide +kernel
theorem dX6_drawn_4 : decode cX6_drawn 4 = .ok (.getfield 184, 3) := by decide +kernel
theorem dX6_drawn_7 : decode cX6_drawn 7 = .ok (.iconst 1, 1) := by decide +kernel
theorem dX6_drawn_8 : decode cX6_drawn 8 = .ok (.isub, 1) := by decide +kernel
theorem dX6_drawn_9 : decode cX6_drawn 9 = .ok (.istore 4, 2) := by decide +kernel
theorem dX6_drawn_11 : decode cX6_drawn 11 = .ok (.iload_n 1, 1) := by decide +kernel
theorem dX6_drawn_12 : decode cX6_drawn 12 = .ok (.iconst 1, 1) := by decide +kernel
theorem dX6_drawn_13 : decode cX6_drawn 13 = .ok (.iload 4, 2) := by decide +kernel
theorem dX6_drawn_15 : decode cX6_drawn 15 = .ok (.invokestatic 69, 3) := by decide +kernel
theorem dX6_drawn_18 : decode cX6_drawn 18 = .ok (.ifCond .eq 12, 3) := by decide +kernel
theorem dX6_drawn_21 : decode cX6_drawn 21 = .ok (.iload_n 3, 1) := by decide +kernel
theorem dX6_drawn_22 : decode cX6_drawn 22 = .ok (.iconst 0, 1) := by decide +kernel
theorem dX6_drawn_23 : decode cX6_drawn 23 = .ok (.iconst 2, 1) := by decide +kernel
theorem dX6_drawn_24 : decode cX6_drawn 24 = .ok (.invokestatic 69, 3) := by decide +kernel
theorem dX6_drawn_27 : decode cX6_drawn 27 = .ok (.ifCond .ne 5, 3) := by decide +kernel
theorem dX6_drawn_30 : decode cX6_drawn 30 = .ok (.iconst (-1), 1) := by decide +kernel
theorem dX6_drawn_31 : decode cX6_drawn 31 = .ok (.ireturn, 1) := by decide +kernel
theorem dX6_drawn_32 : decode cX6_drawn 32 = .ok (.aload_n 0, 1) := by decide +kernel
theorem dX6_drawn_33 : decode cX6_drawn 33 = .ok (.getfield 47, 3) := by decide +kernel
theorem dX6_drawn_36 : decode cX6_drawn 36 = .ok (.iload_n 1, 1) := by decide +kernel
theorem dX6_drawn_37 : decode cX6_drawn 37 = .ok (.iload_n 2, 1) := by decide +kernel
theorem dX6_drawn_38 : decode cX6_drawn 38 = .ok (.aload_n 0, 1) := by decide +kernel
theorem dX6_drawn_39 : decode cX6_drawn 39 = .ok (.getfield 26, 3) := by decide +kernel
theorem dX6_drawn_42 : decode cX6_drawn 42 = .ok (.aload_n 0, 1) := by decide +kernel
theorem dX6_drawn_43 : decode cX6_drawn 43 = .ok (.getfield 51, 3) := by decide +kernel
theorem dX6_drawn_46 : decode cX6_drawn 46 = .ok (.invokevirtual 203, 3) := by decide +kernel
theorem dX6_drawn_49 : decode cX6_drawn 49 = .ok (.istore 5, 2) := by decide +kernel
theorem dX6_drawn_51 : decode cX6_drawn 51 = .ok (.iload_n 3, 1) := by decide +kernel
theorem dX6_drawn_52 : decode cX6_drawn 52 = .ok (.iconst 2, 1) := by decide +kernel
theorem dX6_drawn_53 : decode cX6_drawn 53 = .ok (.if_icmp .ne 13, 3) := by decide +kernel
theorem dX6_drawn_56 : decode cX6_drawn 56 = .ok (.iload 5, 2) := by decide +kernel
theorem dX6_drawn_58 : decode cX6_drawn 58 = .ok (.iload 4, 2) := by decide +kernel
theorem dX6_drawn_60 : decode cX6_drawn 60 = .ok (.iadd, 1) := by decide +kernel
theorem dX6_drawn_61 : decode cX6_drawn 61 = .ok (.iload_n 1, 1) := by decide +kernel
theorem dX6_drawn_62 : decode cX6_drawn 62 = .ok (.isub, 1) := by decide +kernel
theorem dX6_drawn_63 : decode cX6_drawn 63 = .ok (.goto 5, 3) := by decide +kernel
theorem dX6_drawn_66 : decode cX6_drawn 66 = .ok (.iload 5, 2) := by decide +kernel
theorem dX6_drawn_68 : decode cX6_drawn 68 = .ok (.ireturn, 1) := by decide +kernel
theorem dX6_about_0 : decode cX6_about 0 = .ok (.iload_n 1, 1) := by decide +kernel
theorem dX6_about_1 : decode cX6_about 1 = .ok (.bipush 10, 2) := by decide +kernel
theorem dX6_about_3 : decode cX6_about 3 = .ok (.bipush 19, 2) := by decide +kernel
theorem dX6_about_5 : decode cX6_about 5 = .ok (.invokestatic 69, 3) := by decide +kernel
theorem dX6_about_8 : decode cX6_about 8 = .ok (.ifCond .eq 16, 3) := by decide +kernel
theorem dX6_about_11 : decode cX6_about 11 = .ok (.aload_n 0, 1) := by decide +kernel
theorem dX6_about_12 : decode cX6_about 12 = .ok (.getfield 33, 3) := by decide +kernel
theorem dX6_about_15 : decode cX6_about 15 = .ok (.getfield 116, 3) := by decide +kernel
theorem dX6_about_18 : decode cX6_about 18 = .ok (.iload_n 1, 1) := by decide +kernel
theorem dX6_about_19 : decode cX6_about 19 = .ok (.bipush 10, 2) := by decide +kernel
theorem dX6_about_21 : decode cX6_about 21 = .ok (.isub, 1) := by decide +kernel
theorem dX6_about_22 : decode cX6_about 22 = .ok (.iaload, 1) := by decide +kernel
theorem dX6_about_23 : decode cX6_about 23 = .ok (.ireturn, 1) := by decide +kernel
theorem dX6_about_24 : decode cX6_about 24 = .ok (.iload_n 1, 1) := by decide +kernel
theorem dX6_about_25 : decode cX6_about 25 = .ok (.bipush 20, 2) := by decide +kernel
theorem dX6_about_27 : decode cX6_about 27 = .ok (.bipush 24, 2) := by decide +kernel
theorem dX6_about_29 : decode cX6_about 29 = .ok (.invokestatic 69, 3) := by decide +kernel
theorem dX6_about_32 : decode cX6_about 32 = .ok (.ifCond .eq 16, 3) := by decide +kernel
theorem dX6_about_35 : decode cX6_about 35 = .ok (.aload_n 0, 1) := by decide +kernel
theorem dX6_about_36 : decode cX6_about 36 = .ok (.getfield 40, 3) := by decide +kernel
theorem dX6_about_39 : decode cX6_about 39 = .ok (.getfield 145, 3) := by decide +kernel
theorem dX6_about_42 : decode cX6_about 42 = .ok (.iload_n 1, 1) := by decide +kernel
theorem dX6_about_43 : decode cX6_about 43 = .ok (.bipush 20, 2) := by decide +kernel
theorem dX6_about_45 : decode cX6_about 45 = .ok (.isub, 1) := by decide +kernel
theorem dX6_about_46 : decode cX6_about 46 = .ok (.iaload, 1) := by decide +kernel
theorem dX6_about_47 : decode cX6_about 47 = .ok (.ireturn, 1) := by decide +kernel
theorem dX6_about_48 : decode cX6_about 48 = .ok (.iload_n 1, 1) := by decide +kernel
theorem dX6_about_49 : decode cX6_about 49 = .ok (.tableswitch 96 0 6 #[43, 51, 59, 64, 72, 80, 88], 43) := by decide +kernel
theorem dX6_about_92 : decode cX6_about 92 = .ok (.aload_n 0, 1) := by decide +kernel
theorem dX6_about_93 : decode cX6_about 93 = .ok (.getfield 26, 3) := by decide +kernel
theorem dX6_about_96 : decode cX6_about 96 = .ok (.getfield 73, 3) := by decide +kernel
theorem dX6_about_99 : decode cX6_about 99 = .ok (.ireturn, 1) := by decide +kernel
theorem dX6_about_100 : decode cX6_about 100 = .ok (.aload_n 0, 1) := by decide +kernel
theorem dX6_about_101 : decode cX6_about 101 = .ok (.getfield 33, 3) := by decide +kernel
theorem dX6_about_104 : decode cX6_about 104 = .ok (.getfield 106, 3) := by decide +kernel
theorem dX6_about_107 : decode cX6_about 107 = .ok (.ireturn, 1) := by decide +kernel
theorem dX6_about_108 : decode cX6_about 108 = .ok (.aload_n 0, 1) := by decide +kernel
theorem dX6_about_109 : decode cX6_about 109 = .ok (.getfield 51, 3) := by decide +kernel
theorem dX6_about_112 : decode cX6_about 112 = .ok (.ireturn, 1) := by decide +kernel
theorem dX6_about_113 : decode cX6_about 113 = .ok (.aload_n 0, 1) := by decide +kernel
theorem dX6_about_114 : decode cX6_about 114 = .ok (.getfield 33, 3) := by decide +kernel
theorem dX6_about_117 : decode cX6_about 117 = .ok (.getfield 110, 3) := by decide +kernel
theorem dX6_about_120 : decode cX6_about 120 = .ok (.ireturn, 1) := by decide +kernel
theorem dX6_about_121 : decode cX6_about 121 = .ok (.aload_n 0, 1) := by decide +kernel
theorem dX6_about_122 : decode cX6_about 122 = .ok (.getfield 40, 3) := by decide +kernel
theorem dX6_about_125 : decode cX6_about 125 = .ok (.getfield 113, 3) := by decide +kernel
theorem dX6_about_128 : decode cX6_about 128 = .ok (.ireturn, 1) := by decide +kernel
theorem dX6_about_129 : decode cX6_about 129 = .ok (.aload_n 0, 1) := by decide +kernel
theorem dX6_about_130 : decode cX6_about 130 = .ok (.getfield 47, 3) := by decide +kernel
theorem dX6_about_133 : decode cX6_about 133 = .ok (.getfield 184, 3) := by decide +kernel
theorem dX6_about_136 : decode cX6_about 136 = .ok (.ireturn, 1) := by decide +kernel
theorem dX6_about_137 : decode cX6_about 137 = .ok (.aload_n 0, 1) := by decide +kernel
theorem dX6_about_138 : decode cX6_about 138 = .ok (.getfield 10, 3) := by decide +kernel
theorem dX6_about_141 : decode cX6_about 141 = .ok (.getfield 62, 3) := by decide +kernel
theorem dX6_about_144 : decode cX6_about 144 = .ok (.ireturn, 1) := by decide +kernel
theorem dX6_about_145 : decode cX6_about 145 = .ok (.iconst (-1), 1) := by decide +kernel
theorem dX6_about_146 : decode cX6_about 146 = .ok (.ireturn, 1) := by decide +kernel
theorem dX6_within_0 : decode cX6_within 0 = .ok (.iload_n 0, 1) := by decide +kernel
theorem dX6_within_1 : decode cX6_within 1 = .ok (.iload_n 1, 1) := by decide +kernel
theorem dX6_within_2 : decode cX6_within 2 = .ok (.if_icmp .lt 12, 3) := by decide +kernel
theorem dX6_within_5 : decode cX6_within 5 = .ok (.iload_n 0, 1) := by decide +kernel
theorem dX6_within_6 : decode cX6_within 6 = .ok (.iload_n 2, 1) := by decide +kernel
theorem dX6_within_7 : decode cX6_within 7 = .ok (.if_icmp .gt 7, 3) := by decide +kernel
theorem dX6_within_10 : decode cX6_within 10 = .ok (.iconst 1, 1) := by decide +kernel
theorem dX6_within_11 : decode cX6_within 11 = .ok (.goto 4, 3) := by decide +kernel
theorem dX6_within_14 : decode cX6_within 14 = .ok (.iconst 0, 1) := by decide +kernel
theorem dX6_within_15 : decode cX6_within 15 = .ok (.ireturn, 1) := by decide +kernel
theorem dX6_isRule_0 : decode cX6_isRule 0 = .ok (.iload_n 0, 1) := by decide +kernel
theorem dX6_isRule_1 : decode cX6_isRule 1 = .ok (.iconst 0, 1) := by decide +kernel
theorem dX6_isRule_2 : decode cX6_isRule 2 = .ok (.iconst 1, 1) := by decide +kernel
theorem dX6_isRule_3 : decode cX6_isRule 3 = .ok (.invokestatic 69, 3) := by decide +kernel
theorem dX6_isRule_6 : decode cX6_isRule 6 = .ok (.ireturn, 1) := by decide +kernel
theorem dX6_forgetWhatFollows_0 : decode cX6_forgetWhatFollows 0 = .ok (.aload_n 0, 1) := by decide +kernel
theorem dX6_forgetWhatFollows_1 : decode cX6_forgetWhatFollows 1 = .ok (.iconst 0, 1) := by decide +kernel
theorem dX6_forgetWhatFollows_2 : decode cX6_forgetWhatFollows 2 = .ok (.putfield 55, 3) := by decide +kernel
theorem dX6_forgetWhatFollows_5 : decode cX6_forgetWhatFollows 5 = .ok (.aload_n 0, 1) := by decide +kernel
theorem dX6_forgetWhatFollows_6 : decode cX6_forgetWhatFollows 6 = .ok (.iconst 0, 1) := by decide +kernel
theorem dX6_forgetWhatFollows_7 : decode cX6_forgetWhatFollows 7 = .ok (.putfield 59, 3) := by decide +kernel
theorem dX6_forgetWhatFollows_10 : decode cX6_forgetWhatFollows 10 = .ok (.return_, 1) := by decide +kernel
theorem dX6_makePlans_0 : decode cX6_makePlans 0 = .ok (.aload_n 0, 1) := by decide +kernel
theorem dX6_makePlans_1 : decode cX6_makePlans 1 = .ok (.getfield 55, 3) := by decide +kernel
theorem dX6_makePlans_4 : decode cX6_makePlans 4 = .ok (.ifCond .ne 45, 3) := by decide +kernel
theorem dX6_makePlans_7 : decode cX6_makePlans 7 = .ok (.aload_n 0, 1) := by decide +kernel
theorem dX6_makePlans_8 : decode cX6_makePlans 8 = .ok (.getfield 33, 3) := by decide +kernel
theorem dX6_makePlans_11 : decode cX6_makePlans 11 = .ok (.aload_n 0, 1) := by decide +kernel
theorem dX6_makePlans_12 : decode cX6_makePlans 12 = .ok (.getfield 26, 3) := by decide +kernel
theorem dX6_makePlans_15 : decode cX6_makePlans 15 = .ok (.aload_n 0, 1) := by decide +kernel
theorem dX6_makePlans_16 : decode cX6_makePlans 16 = .ok (.getfield 51, 3) := by decide +kernel
theorem dX6_makePlans_19 : decode cX6_makePlans 19 = .ok (.invokevirtual 207, 3) := by decide +kernel
theorem dX6_makePlans_22 : decode cX6_makePlans 22 = .ok (.aload_n 0, 1) := by decide +kernel
theorem dX6_makePlans_23 : decode cX6_makePlans 23 = .ok (.getfield 40, 3) := by decide +kernel
theorem dX6_makePlans_26 : decode cX6_makePlans 26 = .ok (.aload_n 0, 1) := by decide +kernel
theorem dX6_makePlans_27 : decode cX6_makePlans 27 = .ok (.getfield 26, 3) := by decide +kernel
theorem dX6_makePlans_30 : decode cX6_makePlans 30 = .ok (.aload_n 0, 1) := by decide +kernel
theorem dX6_makePlans_31 : decode cX6_makePlans 31 = .ok (.getfield 51, 3) := by decide +kernel
theorem dX6_makePlans_34 : decode cX6_makePlans 34 = .ok (.invokevirtual 211, 3) := by decide +kernel
theorem dX6_makePlans_37 : decode cX6_makePlans 37 = .ok (.aload_n 0, 1) := by decide +kernel
theorem dX6_makePlans_38 : decode cX6_makePlans 38 = .ok (.getfield 40, 3) := by decide +kernel
theorem dX6_makePlans_41 : decode cX6_makePlans 41 = .ok (.invokevirtual 214, 3) := by decide +kernel
theorem dX6_makePlans_44 : decode cX6_makePlans 44 = .ok (.aload_n 0, 1) := by decide +kernel
theorem dX6_makePlans_45 : decode cX6_makePlans 45 = .ok (.iconst 1, 1) := by decide +kernel
theorem dX6_makePlans_46 : decode cX6_makePlans 46 = .ok (.putfield 55, 3) := by decide +kernel
theorem dX6_makePlans_49 : decode cX6_makePlans 49 = .ok (.return_, 1) := by decide +kernel
theorem dX6_lookThrough_0 : decode cX6_lookThrough 0 = .ok (.aload_n 0, 1) := by decide +kernel
theorem dX6_lookThrough_1 : decode cX6_lookThrough 1 = .ok (.getfield 59, 3) := by decide +kernel
theorem dX6_lookThrough_4 : decode cX6_lookThrough 4 = .ok (.ifCond .ne 23, 3) := by decide +kernel
theorem dX6_lookThrough_7 : decode cX6_lookThrough 7 = .ok (.aload_n 0, 1) := by decide +kernel
theorem dX6_lookThrough_8 : decode cX6_lookThrough 8 = .ok (.getfield 47, 3) := by decide +kernel
theorem dX6_lookThrough_11 : decode cX6_lookThrough 11 = .ok (.aload_n 0, 1) := by decide +kernel
theorem dX6_lookThrough_12 : decode cX6_lookThrough 12 = .ok (.getfield 26, 3) := by decide +kernel
theorem dX6_lookThrough_15 : decode cX6_lookThrough 15 = .ok (.aload_n 0, 1) := by decide +kernel
theorem dX6_lookThrough_16 : decode cX6_lookThrough 16 = .ok (.getfield 51, 3) := by decide +kernel
theorem dX6_lookThrough_19 : decode cX6_lookThrough 19 = .ok (.invokevirtual 217, 3) := by decide +kernel
theorem dX6_lookThrough_22 : decode cX6_lookThrough 22 = .ok (.aload_n 0, 1) := by decide +kernel
theorem dX6_lookThrough_23 : decode cX6_lookThrough 23 = .ok (.iconst 1, 1) := by decide +kernel
theorem dX6_lookThrough_24 : decode cX6_lookThrough 24 = .ok (.putfield 59, 3) := by decide +kernel
theorem dX6_lookThrough_27 : decode cX6_lookThrough 27 = .ok (.return_, 1) := by decide +kernel
theorem dX7_init_0 : decode cX7_init 0 = .ok (.aload_n 0, 1) := by decide +kernel
theorem dX7_init_1 : decode cX7_init 1 = .ok (.invokespecial 1, 3) := by decide +kernel
theorem dX7_init_4 : decode cX7_init 4 = .ok (.aload_n 0, 1) := by decide +kernel
theorem dX7_init_5 : decode cX7_init 5 = .ok (.bipush 30, 2) := by decide +kernel
theorem dX7_init_7 : decode cX7_init 7 = .ok (.putfield 7, 3) := by decide +kernel
theorem dX7_init_10 : decode cX7_init 10 = .ok (.aload_n 0, 1) := by decide +kernel
theorem dX7_init_11 : decode cX7_init 11 = .ok (.bipush 100, 2) := by decide +kernel
theorem dX7_init_13 : decode cX7_init 13 = .ok (.putfield 13, 3) := by decide +kernel
theorem dX7_init_16 : decode cX7_init 16 = .ok (.aload_n 0, 1) := by decide +kernel
theorem dX7_init_17 : decode cX7_init 17 = .ok (.bipush 60, 2) := by decide +kernel
theorem dX7_init_19 : decode cX7_init 19 = .ok (.newarray .int, 2) := by decide +kernel
theorem dX7_init_21 : decode cX7_init 21 = .ok (.putfield 16, 3) := by decide +kernel
theorem dX7_init_24 : decode cX7_init 24 = .ok (.aload_n 0, 1) := by decide +kernel
theorem dX7_init_25 : decode cX7_init 25 = .ok (.bipush 60, 2) := by decide +kernel
theorem dX7_init_27 : decode cX7_init 27 = .ok (.newarray .int, 2) := by decide +kernel
theorem dX7_init_29 : decode cX7_init 29 = .ok (.putfield 20, 3) := by decide +kernel
theorem dX7_init_32 : decode cX7_init 32 = .ok (.aload_n 0, 1) := by decide +kernel
theorem dX7_init_33 : decode cX7_init 33 = .ok (.bipush 60, 2) := by decide +kernel
theorem dX7_init_35 : decode cX7_init 35 = .ok (.newarray .int, 2) := by decide +kernel
theorem dX7_init_37 : decode cX7_init 37 = .ok (.putfield 23, 3) := by decide +kernel
theorem dX7_init_40 : decode cX7_init 40 = .ok (.aload_n 0, 1) := by decide +kernel
theorem dX7_init_41 : decode cX7_init 41 = .ok (.bipush 60, 2) := by decide +kernel
theorem dX7_init_43 : decode cX7_init 43 = .ok (.newarray .int, 2) := by decide +kernel
theorem dX7_init_45 : decode cX7_init 45 = .ok (.putfield 26, 3) := by decide +kernel
theorem dX7_init_48 : decode cX7_init 48 = .ok (.aload_n 0, 1) := by decide +kernel
theorem dX7_init_49 : decode cX7_init 49 = .ok (.bipush 60, 2) := by decide +kernel
theorem dX7_init_51 : decode cX7_init 51 = .ok (.newarray .int, 2) := by decide +kernel
theorem dX7_init_53 : decode cX7_init 53 = .ok (.putfield 29, 3) := by decide +kernel
theorem dX7_init_56 : decode cX7_init 56 = .ok (.aload_n 0, 1) := by decide +kernel
theorem dX7_init_57 : decode cX7_init 57 = .ok (.bipush 60, 2) := by decide +kernel
theorem dX7_init_59 : decode cX7_init 59 = .ok (.newarray .int, 2) := by decide +kernel
theorem dX7_init_61 : decode cX7_init 61 = .ok (.putfield 32, 3) := by decide +kernel
theorem dX7_init_64 : decode cX7_init 64 = .ok (.aload_n 0, 1) := by decide +kernel
theorem dX7_init_65 : decode cX7_init 65 = .ok (.bipush 60, 2) := by decide +kernel
theorem dX7_init_67 : decode cX7_init 67 = .ok (.newarray .int, 2) := by decide +kernel
theorem dX7_init_69 : decode cX7_init 69 = .ok (.putfield 35, 3) := by decide +kernel
theorem dX7_init_72 : decode cX7_init 72 = .ok (.aload_n 0, 1) := by decide +kernel
theorem dX7_init_73 : decode cX7_init 73 = .ok (.bipush 16, 2) := by decide +kernel
theorem dX7_init_75 : decode cX7_init 75 = .ok (.newarray .int, 2) := by decide +kernel
theorem dX7_init_77 : decode cX7_init 77 = .ok (.putfield 38, 3) := by decide +kernel
theorem dX7_init_80 : decode cX7_init 80 = .ok (.aload_n 0, 1) := by decide +kernel
theorem dX7_init_81 : decode cX7_init 81 = .ok (.bipush 10, 2) := by decide +kernel
theorem dX7_init_83 : decode cX7_init 83 = .ok (.newarray .int, 2) := by decide +kernel
theorem dX7_init_85 : decode cX7_init 85 = .ok (.putfield 41, 3) := by decide +kernel
theorem dX7_init_88 : decode cX7_init 88 = .ok (.aload_n 0, 1) := by decide +kernel
theorem dX7_init_89 : decode cX7_init 89 = .ok (.iconst 5, 1) := by decide +kernel
theorem dX7_init_90 : decode cX7_init 90 = .ok (.newarray .int, 2) := by decide +kernel
theorem dX7_init_92 : decode cX7_init 92 = .ok (.dup, 1) := by decide +kernel
theorem dX7_init_93 : decode cX7_init 93 = .ok (.iconst 0, 1) := by decide +kernel
theorem dX7_init_94 : decode cX7_init 94 = .ok (.bipush 10, 2) := by decide +kernel
theorem dX7_init_96 : decode cX7_init 96 = .ok (.iastore, 1) := by decide +kernel
theorem dX7_init_97 : decode cX7_init 97 = .ok (.dup, 1) := by decide +kernel
theorem dX7_init_98 : decode cX7_init 98 = .ok (.iconst 1, 1) := by decide +kernel
theorem dX7_init_99 : decode cX7_init 99 = .ok (.bipush 10, 2) := by decide +kernel
theorem dX7_init_101 : decode cX7_init 101 = .ok (.iastore, 1) := by decide +kernel
theorem dX7_init_102 : decode cX7_init 102 = .ok (.dup, 1) := by decide +kernel
theorem dX7_init_103 : decode cX7_init 103 = .ok (.iconst 2, 1) := by decide +kernel
theorem dX7_init_104 : decode cX7_init 104 = .ok (.bipush 10, 2) := by decide +kernel
theorem dX7_init_106 : decode cX7_init 106 = .ok (.iastore, 1) := by decide +kernel
theorem dX7_init_107 : decode cX7_init 107 = .ok (.dup, 1) := by decide +kernel
theorem dX7_init_108 : decode cX7_init 108 = .ok (.iconst 3, 1) := by decide +kernel
theorem dX7_init_109 : decode cX7_init 109 = .ok (.bipush 10, 2) := by decide +kernel
theorem dX7_init_111 : decode cX7_init 111 = .ok (.iastore, 1) := by decide +kernel
theorem dX7_init_112 : decode cX7_init 112 = .ok (.dup, 1) := by decide +kernel
theorem dX7_init_113 : decode cX7_init 113 = .ok (.iconst 4, 1) := by decide +kernel
theorem dX7_init_114 : decode cX7_init 114 = .ok (.bipush 10, 2) := by decide +kernel
theorem dX7_init_116 : decode cX7_init 116 = .ok (.iastore, 1) := by decide +kernel
theorem dX7_init_117 : decode cX7_init 117 = .ok (.putfield 44, 3) := by decide +kernel
theorem dX7_init_120 : decode cX7_init 120 = .ok (.aload_n 0, 1) := by decide +kernel
theorem dX7_init_121 : decode cX7_init 121 = .ok (.bipush 20, 2) := by decide +kernel
theorem dX7_init_123 : decode cX7_init 123 = .ok (.newarray .int, 2) := by decide +kernel
theorem dX7_init_125 : decode cX7_init 125 = .ok (.putfield 47, 3) := by decide +kernel
theorem dX7_init_128 : decode cX7_init 128 = .ok (.aload_n 0, 1) := by decide +kernel
theorem dX7_init_129 : decode cX7_init 129 = .ok (.iconst (-1), 1) := by decide +kernel
theorem dX7_init_130 : decode cX7_init 130 = .ok (.putfield 50, 3) := by decide +kernel
theorem dX7_init_133 : decode cX7_init 133 = .ok (.aload_n 0, 1) := by decide +kernel
theorem dX7_init_134 : decode cX7_init 134 = .ok (.bipush 60, 2) := by decide +kernel
theorem dX7_init_136 : decode cX7_init 136 = .ok (.newarray .int, 2) := by decide +kernel
theorem dX7_init_138 : decode cX7_init 138 = .ok (.putfield 53, 3) := by decide +kernel
theorem dX7_init_141 : decode cX7_init 141 = .ok (.aload_n 0, 1) := by decide +kernel
theorem dX7_init_142 : decode cX7_init 142 = .ok (.bipush 60, 2) := by decide +kernel
theorem dX7_init_144 : decode cX7_init 144 = .ok (.newarray .int, 2) := by decide +kernel
theorem dX7_init_146 : decode cX7_init 146 = .ok (.putfield 56, 3) := by decide +kernel
theorem dX7_init_149 : decode cX7_init 149 = .ok (.aload_n 0, 1) := by decide +kernel
theorem dX7_init_150 : decode cX7_init 150 = .ok (.bipush 60, 2) := by decide +kernel
theorem dX7_init_152 : decode cX7_init 152 = .ok (.newarray .int, 2) := by decide +kernel
theorem dX7_init_154 : decode cX7_init 154 = .ok (.putfield 59, 3) := by decide +kernel
theorem dX7_init_157 : decode cX7_init 157 = .ok (.aload_n 0, 1) := by decide +kernel
theorem dX7_init_158 : decode cX7_init 158 = .ok (.bipush 16, 2) := by decide +kernel
theorem dX7_init_160 : decode cX7_init 160 = .ok (.newarray .int, 2) := by decide +kernel
theorem dX7_init_162 : decode cX7_init 162 = .ok (.putfield 62, 3) := by decide +kernel
theorem dX7_init_165 : decode cX7_init 165 = .ok (.aload_n 0, 1) := by decide +kernel
theorem dX7_init_166 : decode cX7_init 166 = .ok (.bipush 16, 2) := by decide +kernel
theorem dX7_init_168 : decode cX7_init 168 = .ok (.newarray .int, 2) := by decide +kernel
theorem dX7_init_170 : decode cX7_init 170 = .ok (.putfield 65, 3) := by decide +kernel
theorem dX7_init_173 : decode cX7_init 173 = .ok (.aload_n 0, 1) := by decide +kernel
theorem dX7_init_174 : decode cX7_init 174 = .ok (.bipush 60, 2) := by decide +kernel
theorem dX7_init_176 : decode cX7_init 176 = .ok (.newarray .int, 2) := by decide +kernel
theorem dX7_init_178 : decode cX7_init 178 = .ok (.putfield 68, 3) := by decide +kernel
theorem dX7_init_181 : decode cX7_init 181 = .ok (.aload_n 0, 1) := by decide +kernel
theorem dX7_init_182 : decode cX7_init 182 = .ok (.bipush 60, 2) := by decide +kernel
theorem dX7_init_184 : decode cX7_init 184 = .ok (.newarray .int, 2) := by decide +kernel
theorem dX7_init_186 : decode cX7_init 186 = .ok (.putfield 71, 3) := by decide +kernel
theorem dX7_init_189 : decode cX7_init 189 = .ok (.aload_n 0, 1) := by decide +kernel
theorem dX7_init_190 : decode cX7_init 190 = .ok (.bipush 60, 2) := by decide +kernel
theorem dX7_init_192 : decode cX7_init 192 = .ok (.newarray .int, 2) := by decide +kernel
theorem dX7_init_194 : decode cX7_init 194 = .ok (.putfield 74, 3) := by decide +kernel
theorem dX7_init_197 : decode cX7_init 197 = .ok (.aload_n 0, 1) := by decide +kernel
theorem dX7_init_198 : decode cX7_init 198 = .ok (.bipush 60, 2) := by decide +kernel
theorem dX7_init_200 : decode cX7_init 200 = .ok (.newarray .int, 2) := by decide +kernel
theorem dX7_init_202 : decode cX7_init 202 = .ok (.putfield 77, 3) := by decide +kernel
theorem dX7_init_205 : decode cX7_init 205 = .ok (.aload_n 0, 1) := by decide +kernel
theorem dX7_init_206 : decode cX7_init 206 = .ok (.bipush 60, 2) := by decide +kernel
theorem dX7_init_208 : decode cX7_init 208 = .ok (.newarray .int, 2) := by decide +kernel
theorem dX7_init_210 : decode cX7_init 210 = .ok (.putfield 80, 3) := by decide +kernel
theorem dX7_init_213 : decode cX7_init 213 = .ok (.aload_n 0, 1) := by decide +kernel
theorem dX7_init_214 : decode cX7_init 214 = .ok (.bipush 60, 2) := by decide +kernel
theorem dX7_init_216 : decode cX7_init 216 = .ok (.newarray .int, 2) := by decide +kernel
theorem dX7_init_218 : decode cX7_init 218 = .ok (.putfield 83, 3) := by decide +kernel
theorem dX7_init_221 : decode cX7_init 221 = .ok (.aload_n 0, 1) := by decide +kernel
theorem dX7_init_222 : decode cX7_init 222 = .ok (.bipush 60, 2) := by decide +kernel
theorem dX7_init_224 : decode cX7_init 224 = .ok (.newarray .int, 2) := by decide +kernel
theorem dX7_init_226 : decode cX7_init 226 = .ok (.putfield 86, 3) := by decide +kernel
theorem dX7_init_229 : decode cX7_init 229 = .ok (.aload_n 0, 1) := by decide +kernel
theorem dX7_init_230 : decode cX7_init 230 = .ok (.bipush 60, 2) := by decide +kernel
theorem dX7_init_232 : decode cX7_init 232 = .ok (.newarray .int, 2) := by decide +kernel
theorem dX7_init_234 : decode cX7_init 234 = .ok (.putfield 89, 3) := by decide +kernel
theorem dX7_init_237 : decode cX7_init 237 = .ok (.aload_n 0, 1) := by decide +kernel
theorem dX7_init_238 : decode cX7_init 238 = .ok (.bipush 60, 2) := by decide +kernel
theorem dX7_init_240 : decode cX7_init 240 = .ok (.newarray .boolean, 2) := by decide +kernel
theorem dX7_init_242 : decode cX7_init 242 = .ok (.putfield 92, 3) := by decide +kernel
theorem dX7_init_245 : decode cX7_init 245 = .ok (.aload_n 0, 1) := by decide +kernel
theorem dX7_init_246 : decode cX7_init 246 = .ok (.bipush 60, 2) := by decide +kernel
theorem dX7_init_248 : decode cX7_init 248 = .ok (.newarray .int, 2) := by decide +kernel
theorem dX7_init_250 : decode cX7_init 250 = .ok (.putfield 96, 3) := by decide +kernel
theorem dX7_init_253 : decode cX7_init 253 = .ok (.return_, 1) := by decide +kernel
theorem dX7_isIn_0 : decode cX7_isIn 0 = .ok (.iload_n 0, 1) := by decide +kernel
theorem dX7_isIn_1 : decode cX7_isIn 1 = .ok (.iload_n 1, 1) := by decide +kernel
theorem dX7_isIn_2 : decode cX7_isIn 2 = .ok (.if_icmp .lt 12, 3) := by decide +kernel
theorem dX7_isIn_5 : decode cX7_isIn 5 = .ok (.iload_n 0, 1) := by decide +kernel
theorem dX7_isIn_6 : decode cX7_isIn 6 = .ok (.iload_n 2, 1) := by decide +kernel
theorem dX7_isIn_7 : decode cX7_isIn 7 = .ok (.if_icmp .gt 7, 3) := by decide +kernel
theorem dX7_isIn_10 : decode cX7_isIn 10 = .ok (.iconst 1, 1) := by decide +kernel
theorem dX7_isIn_11 : decode cX7_isIn 11 = .ok (.goto 4, 3) := by decide +kernel
theorem dX7_isIn_14 : decode cX7_isIn 14 = .ok (.iconst 0, 1) := by decide +kernel
theorem dX7_isIn_15 : decode cX7_isIn 15 = .ok (.ireturn, 1) := by decide +kernel
theorem dX7_isBook_0 : decode cX7_isBook 0 = .ok (.iload_n 1, 1) := by decide +kernel
theorem dX7_isBook_1 : decode cX7_isBook 1 = .ok (.iconst 0, 1) := by decide +kernel
theorem dX7_isBook_2 : decode cX7_isBook 2 = .ok (.aload_n 0, 1) := by decide +kernel
theorem dX7_isBook_3 : decode cX7_isBook 3 = .ok (.getfield 99, 3) := by decide +kernel
theorem dX7_isBook_6 : decode cX7_isBook 6 = .ok (.iconst 1, 1) := by decide +kernel
theorem dX7_isBook_7 : decode cX7_isBook 7 = .ok (.isub, 1) := by decide +kernel
theorem dX7_isBook_8 : decode cX7_isBook 8 = .ok (.invokestatic 102, 3) := by decide +kernel
theorem dX7_isBook_11 : decode cX7_isBook 11 = .ok (.ireturn, 1) := by decide +kernel
theorem dX7_four_0 : decode cX7_four 0 = .ok (.bipush 24, 2) := by decide +kernel
theorem dX7_four_2 : decode cX7_four 2 = .ok (.istore_n 2, 1) := by decide +kernel
theorem dX7_four_3 : decode cX7_four 3 = .ok (.iload_n 2, 1) := by decide +kernel
theorem dX7_four_4 : decode cX7_four 4 = .ok (.ifCond .lt 35, 3) := by decide +kernel
theorem dX7_four_7 : decode cX7_four 7 = .ok (.aload_n 0, 1) := by decide +kernel
theorem dX7_four_8 : decode cX7_four 8 = .ok (.getfield 47, 3) := by decide +kernel
theorem dX7_four_11 : decode cX7_four 11 = .ok (.aload_n 0, 1) := by decide +kernel
theorem dX7_four_12 : decode cX7_four 12 = .ok (.getfield 106, 3) := by decide +kernel
theorem dX7_four_15 : decode cX7_four 15 = .ok (.iload_n 1, 1) := by decide +kernel
theorem dX7_four_16 : decode cX7_four 16 = .ok (.iload_n 2, 1) := by decide +kernel
theorem dX7_four_17 : decode cX7_four 17 = .ok (.ishr, 1) := by decide +kernel
theorem dX7_four_18 : decode cX7_four 18 = .ok (.sipush 255, 3) := by decide +kernel
theorem dX7_four_21 : decode cX7_four 21 = .ok (.iand, 1) := by decide +kernel
theorem dX7_four_22 : decode cX7_four 22 = .ok (.iastore, 1) := by decide +kernel
end
section
theorem dX7_four_23 : decode cX7_four 23 = .ok (.aload_n 0, 1) := by decide +kernel
theorem dX7_four_24 : decode cX7_four 24 = .ok (.dup, 1) := by decide +kernel
theorem dX7_four_25 : decode cX7_four 25 = .ok (.getfield 106, 3) := by decide +kernel
theorem dX7_four_28 : decode cX7_four 28 = .ok (.iconst 1, 1) := by decide +kernel
theorem dX7_four_29 : decode cX7_four 29 = .ok (.iadd, 1) := by decide +kernel
theorem dX7_four_30 : decode cX7_four 30 = .ok (.putfield 106, 3) := by decide +kernel
theorem dX7_four_33 : decode cX7_four 33 = .ok (.iinc 2 (-8), 3) := by decide +kernel
theorem dX7_four_36 : decode cX7_four 36 = .ok (.goto (-33), 3) := by decide +kernel
theorem dX7_four_39 : decode cX7_four 39 = .ok (.return_, 1) := by decide +kernel
theorem dX7_feed_0 : decode cX7_feed 0 = .ok (.aload_n 0, 1) := by decide +kernel
theorem dX7_feed_1 : decode cX7_feed 1 = .ok (.getfield 106, 3) := by decide +kernel
theorem dX7_feed_4 : decode cX7_feed 4 = .ok (.bipush 20, 2) := by decide +kernel
theorem dX7_feed_6 : decode cX7_feed 6 = .ok (.iadd, 1) := by decide +kernel
theorem dX7_feed_7 : decode cX7_feed 7 = .ok (.bipush 20, 2) := by decide +kernel
theorem dX7_feed_9 : decode cX7_feed 9 = .ok (.if_icmp .le 5, 3) := by decide +kernel
theorem dX7_feed_12 : decode cX7_feed 12 = .ok (.iconst (-1), 1) := by decide +kernel
theorem dX7_feed_13 : decode cX7_feed 13 = .ok (.ireturn, 1) := by decide +kernel
theorem dX7_feed_14 : decode cX7_feed 14 = .ok (.aload_n 0, 1) := by decide +kernel
theorem dX7_feed_15 : decode cX7_feed 15 = .ok (.iload_n 1, 1) := by decide +kernel
theorem dX7_feed_16 : decode cX7_feed 16 = .ok (.invokevirtual 109, 3) := by decide +kernel
theorem dX7_feed_19 : decode cX7_feed 19 = .ok (.aload_n 0, 1) := by decide +kernel
theorem dX7_feed_20 : decode cX7_feed 20 = .ok (.iload_n 2, 1) := by decide +kernel
theorem dX7_feed_21 : decode cX7_feed 21 = .ok (.invokevirtual 109, 3) := by decide +kernel
theorem dX7_feed_24 : decode cX7_feed 24 = .ok (.aload_n 0, 1) := by decide +kernel
theorem dX7_feed_25 : decode cX7_feed 25 = .ok (.iload_n 3, 1) := by decide +kernel
theorem dX7_feed_26 : decode cX7_feed 26 = .ok (.invokevirtual 109, 3) := by decide +kernel
theorem dX7_feed_29 : decode cX7_feed 29 = .ok (.aload_n 0, 1) := by decide +kernel
theorem dX7_feed_30 : decode cX7_feed 30 = .ok (.iload 4, 2) := by decide +kernel
theorem dX7_feed_32 : decode cX7_feed 32 = .ok (.invokevirtual 109, 3) := by decide +kernel
theorem dX7_feed_35 : decode cX7_feed 35 = .ok (.aload_n 0, 1) := by decide +kernel
theorem dX7_feed_36 : decode cX7_feed 36 = .ok (.iload 5, 2) := by decide +kernel
theorem dX7_feed_38 : decode cX7_feed 38 = .ok (.invokevirtual 109, 3) := by decide +kernel
theorem dX7_feed_41 : decode cX7_feed 41 = .ok (.aload_n 0, 1) := by decide +kernel
theorem dX7_feed_42 : decode cX7_feed 42 = .ok (.getfield 106, 3) := by decide +kernel
theorem dX7_feed_45 : decode cX7_feed 45 = .ok (.ireturn, 1) := by decide +kernel
theorem dX7_end_0 : decode cX7_end 0 = .ok (.iload_n 1, 1) := by decide +kernel
theorem dX7_end_1 : decode cX7_end 1 = .ok (.iconst 0, 1) := by decide +kernel
theorem dX7_end_2 : decode cX7_end 2 = .ok (.aload_n 0, 1) := by decide +kernel
theorem dX7_end_3 : decode cX7_end 3 = .ok (.getfield 106, 3) := by decide +kernel
theorem dX7_end_6 : decode cX7_end 6 = .ok (.invokestatic 102, 3) := by decide +kernel
theorem dX7_end_9 : decode cX7_end 9 = .ok (.ifCond .ne 5, 3) := by decide +kernel
theorem dX7_end_12 : decode cX7_end 12 = .ok (.iconst (-1), 1) := by decide +kernel
theorem dX7_end_13 : decode cX7_end 13 = .ok (.ireturn, 1) := by decide +kernel
theorem dX7_end_14 : decode cX7_end 14 = .ok (.aload_n 0, 1) := by decide +kernel
theorem dX7_end_15 : decode cX7_end 15 = .ok (.iload_n 1, 1) := by decide +kernel
theorem dX7_end_16 : decode cX7_end 16 = .ok (.putfield 106, 3) := by decide +kernel
theorem dX7_end_19 : decode cX7_end 19 = .ok (.iload_n 1, 1) := by decide +kernel
theorem dX7_end_20 : decode cX7_end 20 = .ok (.ireturn, 1) := by decide +kernel
theorem dX7_see_0 : decode cX7_see 0 = .ok (.iload_n 1, 1) := by decide +kernel
theorem dX7_see_1 : decode cX7_see 1 = .ok (.aload_n 0, 1) := by decide +kernel
theorem dX7_see_2 : decode cX7_see 2 = .ok (.getfield 106, 3) := by decide +kernel
theorem dX7_see_5 : decode cX7_see 5 = .ok (.if_icmp .ge 12, 3) := by decide +kernel
theorem dX7_see_8 : decode cX7_see 8 = .ok (.aload_n 0, 1) := by decide +kernel
theorem dX7_see_9 : decode cX7_see 9 = .ok (.getfield 47, 3) := by decide +kernel
theorem dX7_see_12 : decode cX7_see 12 = .ok (.iload_n 1, 1) := by decide +kernel
theorem dX7_see_13 : decode cX7_see 13 = .ok (.iaload, 1) := by decide +kernel
theorem dX7_see_14 : decode cX7_see 14 = .ok (.goto 4, 3) := by decide +kernel
theorem dX7_see_17 : decode cX7_see 17 = .ok (.iconst (-1), 1) := by decide +kernel
theorem dX7_see_18 : decode cX7_see 18 = .ok (.ireturn, 1) := by decide +kernel
theorem dX7_digitsHere_0 : decode cX7_digitsHere 0 = .ok (.iconst 0, 1) := by decide +kernel
theorem dX7_digitsHere_1 : decode cX7_digitsHere 1 = .ok (.istore_n 1, 1) := by decide +kernel
theorem dX7_digitsHere_2 : decode cX7_digitsHere 2 = .ok (.aload_n 0, 1) := by decide +kernel
theorem dX7_digitsHere_3 : decode cX7_digitsHere 3 = .ok (.getfield 113, 3) := by decide +kernel
theorem dX7_digitsHere_6 : decode cX7_digitsHere 6 = .ok (.istore_n 2, 1) := by decide +kernel
theorem dX7_digitsHere_7 : decode cX7_digitsHere 7 = .ok (.aload_n 0, 1) := by decide +kernel
theorem dX7_digitsHere_8 : decode cX7_digitsHere 8 = .ok (.getfield 113, 3) := by decide +kernel
theorem dX7_digitsHere_11 : decode cX7_digitsHere 11 = .ok (.iload_n 2, 1) := by decide +kernel
theorem dX7_digitsHere_12 : decode cX7_digitsHere 12 = .ok (.iconst 4, 1) := by decide +kernel
theorem dX7_digitsHere_13 : decode cX7_digitsHere 13 = .ok (.iadd, 1) := by decide +kernel
theorem dX7_digitsHere_14 : decode cX7_digitsHere 14 = .ok (.if_icmp .ge 51, 3) := by decide +kernel
theorem dX7_digitsHere_17 : decode cX7_digitsHere 17 = .ok (.aload_n 0, 1) := by decide +kernel
theorem dX7_digitsHere_18 : decode cX7_digitsHere 18 = .ok (.aload_n 0, 1) := by decide +kernel
theorem dX7_digitsHere_19 : decode cX7_digitsHere 19 = .ok (.getfield 113, 3) := by decide +kernel
theorem dX7_digitsHere_22 : decode cX7_digitsHere 22 = .ok (.invokevirtual 116, 3) := by decide +kernel
theorem dX7_digitsHere_25 : decode cX7_digitsHere 25 = .ok (.bipush 48, 2) := by decide +kernel
theorem dX7_digitsHere_27 : decode cX7_digitsHere 27 = .ok (.bipush 57, 2) := by decide +kernel
theorem dX7_digitsHere_29 : decode cX7_digitsHere 29 = .ok (.invokestatic 102, 3) := by decide +kernel
theorem dX7_digitsHere_32 : decode cX7_digitsHere 32 = .ok (.ifCond .eq 33, 3) := by decide +kernel
theorem dX7_digitsHere_35 : decode cX7_digitsHere 35 = .ok (.bipush 10, 2) := by decide +kernel
theorem dX7_digitsHere_37 : decode cX7_digitsHere 37 = .ok (.iload_n 1, 1) := by decide +kernel
theorem dX7_digitsHere_38 : decode cX7_digitsHere 38 = .ok (.imul, 1) := by decide +kernel
theorem dX7_digitsHere_39 : decode cX7_digitsHere 39 = .ok (.aload_n 0, 1) := by decide +kernel
theorem dX7_digitsHere_40 : decode cX7_digitsHere 40 = .ok (.aload_n 0, 1) := by decide +kernel
theorem dX7_digitsHere_41 : decode cX7_digitsHere 41 = .ok (.getfield 113, 3) := by decide +kernel
theorem dX7_digitsHere_44 : decode cX7_digitsHere 44 = .ok (.invokevirtual 116, 3) := by decide +kernel
theorem dX7_digitsHere_47 : decode cX7_digitsHere 47 = .ok (.iadd, 1) := by decide +kernel
theorem dX7_digitsHere_48 : decode cX7_digitsHere 48 = .ok (.bipush 48, 2) := by decide +kernel
theorem dX7_digitsHere_50 : decode cX7_digitsHere 50 = .ok (.isub, 1) := by decide +kernel
theorem dX7_digitsHere_51 : decode cX7_digitsHere 51 = .ok (.istore_n 1, 1) := by decide +kernel
theorem dX7_digitsHere_52 : decode cX7_digitsHere 52 = .ok (.aload_n 0, 1) := by decide +kernel
theorem dX7_digitsHere_53 : decode cX7_digitsHere 53 = .ok (.dup, 1) := by decide +kernel
theorem dX7_digitsHere_54 : decode cX7_digitsHere 54 = .ok (.getfield 113, 3) := by decide +kernel
theorem dX7_digitsHere_57 : decode cX7_digitsHere 57 = .ok (.iconst 1, 1) := by decide +kernel
theorem dX7_digitsHere_58 : decode cX7_digitsHere 58 = .ok (.iadd, 1) := by decide +kernel
theorem dX7_digitsHere_59 : decode cX7_digitsHere 59 = .ok (.putfield 113, 3) := by decide +kernel
theorem dX7_digitsHere_62 : decode cX7_digitsHere 62 = .ok (.goto (-55), 3) := by decide +kernel
theorem dX7_digitsHere_65 : decode cX7_digitsHere 65 = .ok (.iload_n 1, 1) := by decide +kernel
theorem dX7_digitsHere_66 : decode cX7_digitsHere 66 = .ok (.ireturn, 1) := by decide +kernel
theorem dX7_isMark_0 : decode cX7_isMark 0 = .ok (.aload_n 0, 1) := by decide +kernel
theorem dX7_isMark_1 : decode cX7_isMark 1 = .ok (.iconst 0, 1) := by decide +kernel
theorem dX7_isMark_2 : decode cX7_isMark 2 = .ok (.putfield 113, 3) := by decide +kernel
theorem dX7_isMark_5 : decode cX7_isMark 5 = .ok (.aload_n 0, 1) := by decide +kernel
theorem dX7_isMark_6 : decode cX7_isMark 6 = .ok (.getfield 16, 3) := by decide +kernel
theorem dX7_isMark_9 : decode cX7_isMark 9 = .ok (.iload_n 1, 1) := by decide +kernel
theorem dX7_isMark_10 : decode cX7_isMark 10 = .ok (.aload_n 0, 1) := by decide +kernel
theorem dX7_isMark_11 : decode cX7_isMark 11 = .ok (.invokevirtual 120, 3) := by decide +kernel
theorem dX7_isMark_14 : decode cX7_isMark 14 = .ok (.iastore, 1) := by decide +kernel
theorem dX7_isMark_15 : decode cX7_isMark 15 = .ok (.aload_n 0, 1) := by decide +kernel
theorem dX7_isMark_16 : decode cX7_isMark 16 = .ok (.getfield 113, 3) := by decide +kernel
theorem dX7_isMark_19 : decode cX7_isMark 19 = .ok (.ifCond .ne 5, 3) := by decide +kernel
theorem dX7_isMark_22 : decode cX7_isMark 22 = .ok (.iconst 0, 1) := by decide +kernel
theorem dX7_isMark_23 : decode cX7_isMark 23 = .ok (.ireturn, 1) := by decide +kernel
theorem dX7_isMark_24 : decode cX7_isMark 24 = .ok (.aload_n 0, 1) := by decide +kernel
theorem dX7_isMark_25 : decode cX7_isMark 25 = .ok (.getfield 20, 3) := by decide +kernel
theorem dX7_isMark_28 : decode cX7_isMark 28 = .ok (.iload_n 1, 1) := by decide +kernel
theorem dX7_isMark_29 : decode cX7_isMark 29 = .ok (.iconst (-1), 1) := by decide +kernel
theorem dX7_isMark_30 : decode cX7_isMark 30 = .ok (.iastore, 1) := by decide +kernel
theorem dX7_isMark_31 : decode cX7_isMark 31 = .ok (.aload_n 0, 1) := by decide +kernel
theorem dX7_isMark_32 : decode cX7_isMark 32 = .ok (.getfield 23, 3) := by decide +kernel
theorem dX7_isMark_35 : decode cX7_isMark 35 = .ok (.iload_n 1, 1) := by decide +kernel
theorem dX7_isMark_36 : decode cX7_isMark 36 = .ok (.iconst 0, 1) := by decide +kernel
theorem dX7_isMark_37 : decode cX7_isMark 37 = .ok (.iastore, 1) := by decide +kernel
theorem dX7_isMark_38 : decode cX7_isMark 38 = .ok (.aload_n 0, 1) := by decide +kernel
theorem dX7_isMark_39 : decode cX7_isMark 39 = .ok (.getfield 26, 3) := by decide +kernel
theorem dX7_isMark_42 : decode cX7_isMark 42 = .ok (.iload_n 1, 1) := by decide +kernel
theorem dX7_isMark_43 : decode cX7_isMark 43 = .ok (.iconst 0, 1) := by decide +kernel
theorem dX7_isMark_44 : decode cX7_isMark 44 = .ok (.iastore, 1) := by decide +kernel
theorem dX7_isMark_45 : decode cX7_isMark 45 = .ok (.aload_n 0, 1) := by decide +kernel
theorem dX7_isMark_46 : decode cX7_isMark 46 = .ok (.aload_n 0, 1) := by decide +kernel
theorem dX7_isMark_47 : decode cX7_isMark 47 = .ok (.getfield 113, 3) := by decide +kernel
theorem dX7_isMark_50 : decode cX7_isMark 50 = .ok (.invokevirtual 116, 3) := by decide +kernel
theorem dX7_isMark_53 : decode cX7_isMark 53 = .ok (.bipush 46, 2) := by decide +kernel
theorem dX7_isMark_55 : decode cX7_isMark 55 = .ok (.if_icmp .ne 50, 3) := by decide +kernel
theorem dX7_isMark_58 : decode cX7_isMark 58 = .ok (.aload_n 0, 1) := by decide +kernel
theorem dX7_isMark_59 : decode cX7_isMark 59 = .ok (.dup, 1) := by decide +kernel
theorem dX7_isMark_60 : decode cX7_isMark 60 = .ok (.getfield 113, 3) := by decide +kernel
theorem dX7_isMark_63 : decode cX7_isMark 63 = .ok (.iconst 1, 1) := by decide +kernel
theorem dX7_isMark_64 : decode cX7_isMark 64 = .ok (.iadd, 1) := by decide +kernel
theorem dX7_isMark_65 : decode cX7_isMark 65 = .ok (.putfield 113, 3) := by decide +kernel
theorem dX7_isMark_68 : decode cX7_isMark 68 = .ok (.aload_n 0, 1) := by decide +kernel
theorem dX7_isMark_69 : decode cX7_isMark 69 = .ok (.getfield 113, 3) := by decide +kernel
theorem dX7_isMark_72 : decode cX7_isMark 72 = .ok (.istore_n 2, 1) := by decide +kernel
theorem dX7_isMark_73 : decode cX7_isMark 73 = .ok (.aload_n 0, 1) := by decide +kernel
theorem dX7_isMark_74 : decode cX7_isMark 74 = .ok (.getfield 20, 3) := by decide +kernel
theorem dX7_isMark_77 : decode cX7_isMark 77 = .ok (.iload_n 1, 1) := by decide +kernel
theorem dX7_isMark_78 : decode cX7_isMark 78 = .ok (.aload_n 0, 1) := by decide +kernel
theorem dX7_isMark_79 : decode cX7_isMark 79 = .ok (.invokevirtual 120, 3) := by decide +kernel
theorem dX7_isMark_82 : decode cX7_isMark 82 = .ok (.iastore, 1) := by decide +kernel
theorem dX7_isMark_83 : decode cX7_isMark 83 = .ok (.aload_n 0, 1) := by decide +kernel
theorem dX7_isMark_84 : decode cX7_isMark 84 = .ok (.getfield 23, 3) := by decide +kernel
theorem dX7_isMark_87 : decode cX7_isMark 87 = .ok (.iload_n 1, 1) := by decide +kernel
theorem dX7_isMark_88 : decode cX7_isMark 88 = .ok (.aload_n 0, 1) := by decide +kernel
theorem dX7_isMark_89 : decode cX7_isMark 89 = .ok (.getfield 113, 3) := by decide +kernel
theorem dX7_isMark_92 : decode cX7_isMark 92 = .ok (.iload_n 2, 1) := by decide +kernel
theorem dX7_isMark_93 : decode cX7_isMark 93 = .ok (.isub, 1) := by decide +kernel
theorem dX7_isMark_94 : decode cX7_isMark 94 = .ok (.iastore, 1) := by decide +kernel
theorem dX7_isMark_95 : decode cX7_isMark 95 = .ok (.aload_n 0, 1) := by decide +kernel
theorem dX7_isMark_96 : decode cX7_isMark 96 = .ok (.getfield 113, 3) := by decide +kernel
theorem dX7_isMark_99 : decode cX7_isMark 99 = .ok (.iload_n 2, 1) := by decide +kernel
theorem dX7_isMark_100 : decode cX7_isMark 100 = .ok (.if_icmp .ne 5, 3) := by decide +kernel
theorem dX7_isMark_103 : decode cX7_isMark 103 = .ok (.iconst 0, 1) := by decide +kernel
theorem dX7_isMark_104 : decode cX7_isMark 104 = .ok (.ireturn, 1) := by decide +kernel
theorem dX7_isMark_105 : decode cX7_isMark 105 = .ok (.aload_n 0, 1) := by decide +kernel
theorem dX7_isMark_106 : decode cX7_isMark 106 = .ok (.getfield 113, 3) := by decide +kernel
theorem dX7_isMark_109 : decode cX7_isMark 109 = .ok (.istore_n 2, 1) := by decide +kernel
theorem dX7_isMark_110 : decode cX7_isMark 110 = .ok (.iconst 0, 1) := by decide +kernel
theorem dX7_isMark_111 : decode cX7_isMark 111 = .ok (.istore_n 3, 1) := by decide +kernel
theorem dX7_isMark_112 : decode cX7_isMark 112 = .ok (.iload_n 3, 1) := by decide +kernel
theorem dX7_isMark_113 : decode cX7_isMark 113 = .ok (.iconst 3, 1) := by decide +kernel
theorem dX7_isMark_114 : decode cX7_isMark 114 = .ok (.if_icmp .ge 97, 3) := by decide +kernel
theorem dX7_isMark_117 : decode cX7_isMark 117 = .ok (.aload_n 0, 1) := by decide +kernel
theorem dX7_isMark_118 : decode cX7_isMark 118 = .ok (.getfield 113, 3) := by decide +kernel
theorem dX7_isMark_121 : decode cX7_isMark 121 = .ok (.iload_n 2, 1) := by decide +kernel
theorem dX7_isMark_122 : decode cX7_isMark 122 = .ok (.iload_n 3, 1) := by decide +kernel
theorem dX7_isMark_123 : decode cX7_isMark 123 = .ok (.iadd, 1) := by decide +kernel
theorem dX7_isMark_124 : decode cX7_isMark 124 = .ok (.if_icmp .ne 25, 3) := by decide +kernel
theorem dX7_isMark_127 : decode cX7_isMark 127 = .ok (.aload_n 0, 1) := by decide +kernel
theorem dX7_isMark_128 : decode cX7_isMark 128 = .ok (.aload_n 0, 1) := by decide +kernel
theorem dX7_isMark_129 : decode cX7_isMark 129 = .ok (.getfield 113, 3) := by decide +kernel
theorem dX7_isMark_132 : decode cX7_isMark 132 = .ok (.invokevirtual 116, 3) := by decide +kernel
theorem dX7_isMark_135 : decode cX7_isMark 135 = .ok (.bipush 97, 2) := by decide +kernel
theorem dX7_isMark_137 : decode cX7_isMark 137 = .ok (.bipush 122, 2) := by decide +kernel
theorem dX7_isMark_139 : decode cX7_isMark 139 = .ok (.invokestatic 102, 3) := by decide +kernel
theorem dX7_isMark_142 : decode cX7_isMark 142 = .ok (.ifCond .eq 7, 3) := by decide +kernel
theorem dX7_isMark_145 : decode cX7_isMark 145 = .ok (.iconst 1, 1) := by decide +kernel
theorem dX7_isMark_146 : decode cX7_isMark 146 = .ok (.goto 4, 3) := by decide +kernel
theorem dX7_isMark_149 : decode cX7_isMark 149 = .ok (.iconst 0, 1) := by decide +kernel
theorem dX7_isMark_150 : decode cX7_isMark 150 = .ok (.istore 4, 2) := by decide +kernel
theorem dX7_isMark_152 : decode cX7_isMark 152 = .ok (.aload_n 0, 1) := by decide +kernel
theorem dX7_isMark_153 : decode cX7_isMark 153 = .ok (.getfield 26, 3) := by decide +kernel
theorem dX7_isMark_156 : decode cX7_isMark 156 = .ok (.iload_n 1, 1) := by decide +kernel
theorem dX7_isMark_157 : decode cX7_isMark 157 = .ok (.bipush 27, 2) := by decide +kernel
theorem dX7_isMark_159 : decode cX7_isMark 159 = .ok (.aload_n 0, 1) := by decide +kernel
theorem dX7_isMark_160 : decode cX7_isMark 160 = .ok (.getfield 26, 3) := by decide +kernel
theorem dX7_isMark_163 : decode cX7_isMark 163 = .ok (.iload_n 1, 1) := by decide +kernel
theorem dX7_isMark_164 : decode cX7_isMark 164 = .ok (.iaload, 1) := by decide +kernel
theorem dX7_isMark_165 : decode cX7_isMark 165 = .ok (.imul, 1) := by decide +kernel
theorem dX7_isMark_166 : decode cX7_isMark 166 = .ok (.iload 4, 2) := by decide +kernel
theorem dX7_isMark_168 : decode cX7_isMark 168 = .ok (.ifCond .eq 19, 3) := by decide +kernel
theorem dX7_isMark_171 : decode cX7_isMark 171 = .ok (.aload_n 0, 1) := by decide +kernel
theorem dX7_isMark_172 : decode cX7_isMark 172 = .ok (.aload_n 0, 1) := by decide +kernel
theorem dX7_isMark_173 : decode cX7_isMark 173 = .ok (.getfield 113, 3) := by decide +kernel
theorem dX7_isMark_176 : decode cX7_isMark 176 = .ok (.invokevirtual 116, 3) := by decide +kernel
theorem dX7_isMark_179 : decode cX7_isMark 179 = .ok (.bipush 97, 2) := by decide +kernel
theorem dX7_isMark_181 : decode cX7_isMark 181 = .ok (.isub, 1) := by decide +kernel
theorem dX7_isMark_182 : decode cX7_isMark 182 = .ok (.iconst 1, 1) := by decide +kernel
theorem dX7_isMark_183 : decode cX7_isMark 183 = .ok (.iadd, 1) := by decide +kernel
theorem dX7_isMark_184 : decode cX7_isMark 184 = .ok (.goto 4, 3) := by decide +kernel
theorem dX7_isMark_187 : decode cX7_isMark 187 = .ok (.iconst 0, 1) := by decide +kernel
theorem dX7_isMark_188 : decode cX7_isMark 188 = .ok (.iadd, 1) := by decide +kernel
theorem dX7_isMark_189 : decode cX7_isMark 189 = .ok (.iastore, 1) := by decide +kernel
theorem dX7_isMark_190 : decode cX7_isMark 190 = .ok (.iload 4, 2) := by decide +kernel
theorem dX7_isMark_192 : decode cX7_isMark 192 = .ok (.ifCond .eq 13, 3) := by decide +kernel
theorem dX7_isMark_195 : decode cX7_isMark 195 = .ok (.aload_n 0, 1) := by decide +kernel
theorem dX7_isMark_196 : decode cX7_isMark 196 = .ok (.dup, 1) := by decide +kernel
theorem dX7_isMark_197 : decode cX7_isMark 197 = .ok (.getfield 113, 3) := by decide +kernel
theorem dX7_isMark_200 : decode cX7_isMark 200 = .ok (.iconst 1, 1) := by decide +kernel
theorem dX7_isMark_201 : decode cX7_isMark 201 = .ok (.iadd, 1) := by decide +kernel
theorem dX7_isMark_202 : decode cX7_isMark 202 = .ok (.putfield 113, 3) := by decide +kernel
theorem dX7_isMark_205 : decode cX7_isMark 205 = .ok (.iinc 3 1, 3) := by decide +kernel
theorem dX7_isMark_208 : decode cX7_isMark 208 = .ok (.goto (-96), 3) := by decide +kernel
theorem dX7_isMark_211 : decode cX7_isMark 211 = .ok (.aload_n 0, 1) := by decide +kernel
theorem dX7_isMark_212 : decode cX7_isMark 212 = .ok (.getfield 113, 3) := by decide +kernel
theorem dX7_isMark_215 : decode cX7_isMark 215 = .ok (.aload_n 0, 1) := by decide +kernel
theorem dX7_isMark_216 : decode cX7_isMark 216 = .ok (.getfield 106, 3) := by decide +kernel
theorem dX7_isMark_219 : decode cX7_isMark 219 = .ok (.if_icmp .ne 7, 3) := by decide +kernel
theorem dX7_isMark_222 : decode cX7_isMark 222 = .ok (.iconst 1, 1) := by decide +kernel
theorem dX7_isMark_223 : decode cX7_isMark 223 = .ok (.goto 4, 3) := by decide +kernel
theorem dX7_isMark_226 : decode cX7_isMark 226 = .ok (.iconst 0, 1) := by decide +kernel
theorem dX7_isMark_227 : decode cX7_isMark 227 = .ok (.ireturn, 1) := by decide +kernel
theorem dX7_book_0 : decode cX7_book 0 = .ok (.iload_n 1, 1) := by decide +kernel
theorem dX7_book_1 : decode cX7_book 1 = .ok (.iconst 0, 1) := by decide +kernel
theorem dX7_book_2 : decode cX7_book 2 = .ok (.iconst 4, 1) := by decide +kernel
theorem dX7_book_3 : decode cX7_book 3 = .ok (.invokestatic 102, 3) := by decide +kernel
theorem dX7_book_6 : decode cX7_book 6 = .ok (.ifCond .eq 33, 3) := by decide +kernel
theorem dX7_book_9 : decode cX7_book 9 = .ok (.iload_n 2, 1) := by decide +kernel
theorem dX7_book_10 : decode cX7_book 10 = .ok (.iconst 1, 1) := by decide +kernel
theorem dX7_book_11 : decode cX7_book 11 = .ok (.sipush 200, 3) := by decide +kernel
theorem dX7_book_14 : decode cX7_book 14 = .ok (.invokestatic 102, 3) := by decide +kernel
theorem dX7_book_17 : decode cX7_book 17 = .ok (.ifCond .eq 22, 3) := by decide +kernel
theorem dX7_book_20 : decode cX7_book 20 = .ok (.iload_n 3, 1) := by decide +kernel
theorem dX7_book_21 : decode cX7_book 21 = .ok (.iconst 1, 1) := by decide +kernel
theorem dX7_book_22 : decode cX7_book 22 = .ok (.bipush 100, 2) := by decide +kernel
theorem dX7_book_24 : decode cX7_book 24 = .ok (.invokestatic 102, 3) := by decide +kernel
theorem dX7_book_27 : decode cX7_book 27 = .ok (.ifCond .eq 12, 3) := by decide +kernel
theorem dX7_book_30 : decode cX7_book 30 = .ok (.aload_n 0, 1) := by decide +kernel
theorem dX7_book_31 : decode cX7_book 31 = .ok (.getfield 99, 3) := by decide +kernel
theorem dX7_book_34 : decode cX7_book 34 = .ok (.bipush 60, 2) := by decide +kernel
theorem dX7_book_36 : decode cX7_book 36 = .ok (.if_icmp .ne 5, 3) := by decide +kernel
theorem dX7_book_39 : decode cX7_book 39 = .ok (.iconst (-1), 1) := by decide +kernel
theorem dX7_book_40 : decode cX7_book 40 = .ok (.ireturn, 1) := by decide +kernel
theorem dX7_book_41 : decode cX7_book 41 = .ok (.aload_n 0, 1) := by decide +kernel
theorem dX7_book_42 : decode cX7_book 42 = .ok (.aload_n 0, 1) := by decide +kernel
theorem dX7_book_43 : decode cX7_book 43 = .ok (.getfield 99, 3) := by decide +kernel
theorem dX7_book_46 : decode cX7_book 46 = .ok (.invokevirtual 124, 3) := by decide +kernel
theorem dX7_book_49 : decode cX7_book 49 = .ok (.istore 4, 2) := by decide +kernel
theorem dX7_book_51 : decode cX7_book 51 = .ok (.aload_n 0, 1) := by decide +kernel
theorem dX7_book_52 : decode cX7_book 52 = .ok (.iload 4, 2) := by decide +kernel
theorem dX7_book_54 : decode cX7_book 54 = .ok (.ifCond .eq 7, 3) := by decide +kernel
theorem dX7_book_57 : decode cX7_book 57 = .ok (.iconst (-1), 1) := by decide +kernel
theorem dX7_book_58 : decode cX7_book 58 = .ok (.goto 7, 3) := by decide +kernel
theorem dX7_book_61 : decode cX7_book 61 = .ok (.aload_n 0, 1) := by decide +kernel
theorem dX7_book_62 : decode cX7_book 62 = .ok (.getfield 113, 3) := by decide +kernel
theorem dX7_book_65 : decode cX7_book 65 = .ok (.putfield 50, 3) := by decide +kernel
theorem dX7_book_68 : decode cX7_book 68 = .ok (.aload_n 0, 1) := by decide +kernel
theorem dX7_book_69 : decode cX7_book 69 = .ok (.iconst 0, 1) := by decide +kernel
theorem dX7_book_70 : decode cX7_book 70 = .ok (.putfield 106, 3) := by decide +kernel
theorem dX7_book_73 : decode cX7_book 73 = .ok (.iload 4, 2) := by decide +kernel
theorem dX7_book_75 : decode cX7_book 75 = .ok (.ifCond .ne 5, 3) := by decide +kernel
theorem dX7_book_78 : decode cX7_book 78 = .ok (.iconst (-1), 1) := by decide +kernel
theorem dX7_book_79 : decode cX7_book 79 = .ok (.ireturn, 1) := by decide +kernel
theorem dX7_book_80 : decode cX7_book 80 = .ok (.aload_n 0, 1) := by decide +kernel
theorem dX7_book_81 : decode cX7_book 81 = .ok (.getfield 29, 3) := by decide +kernel
theorem dX7_book_84 : decode cX7_book 84 = .ok (.aload_n 0, 1) := by decide +kernel
theorem dX7_book_85 : decode cX7_book 85 = .ok (.getfield 99, 3) := by decide +kernel
theorem dX7_book_88 : decode cX7_book 88 = .ok (.iload_n 1, 1) := by decide +kernel
theorem dX7_book_89 : decode cX7_book 89 = .ok (.iastore, 1) := by decide +kernel
theorem dX7_book_90 : decode cX7_book 90 = .ok (.aload_n 0, 1) := by decide +kernel
theorem dX7_book_91 : decode cX7_book 91 = .ok (.getfield 32, 3) := by decide +kernel
theorem dX7_book_94 : decode cX7_book 94 = .ok (.aload_n 0, 1) := by decide +kernel
theorem dX7_book_95 : decode cX7_book 95 = .ok (.getfield 99, 3) := by decide +kernel
theorem dX7_book_98 : decode cX7_book 98 = .ok (.iload_n 2, 1) := by decide +kernel
theorem dX7_book_99 : decode cX7_book 99 = .ok (.iastore, 1) := by decide +kernel
theorem dX7_book_100 : decode cX7_book 100 = .ok (.aload_n 0, 1) := by decide +kernel
theorem dX7_book_101 : decode cX7_book 101 = .ok (.getfield 35, 3) := by decide +kernel
theorem dX7_book_104 : decode cX7_book 104 = .ok (.aload_n 0, 1) := by decide +kernel
theorem dX7_book_105 : decode cX7_book 105 = .ok (.getfield 99, 3) := by decide +kernel
theorem dX7_book_108 : decode cX7_book 108 = .ok (.iload_n 3, 1) := by decide +kernel
theorem dX7_book_109 : decode cX7_book 109 = .ok (.iastore, 1) := by decide +kernel
theorem dX7_book_110 : decode cX7_book 110 = .ok (.aload_n 0, 1) := by decide +kernel
theorem dX7_book_111 : decode cX7_book 111 = .ok (.dup, 1) := by decide +kernel
theorem dX7_book_112 : decode cX7_book 112 = .ok (.getfield 99, 3) := by decide +kernel
theorem dX7_book_115 : decode cX7_book 115 = .ok (.iconst 1, 1) := by decide +kernel
theorem dX7_book_116 : decode cX7_book 116 = .ok (.iadd, 1) := by decide +kernel
theorem dX7_book_117 : decode cX7_book 117 = .ok (.putfield 99, 3) := by decide +kernel
theorem dX7_book_120 : decode cX7_book 120 = .ok (.aload_n 0, 1) := by decide +kernel
theorem dX7_book_121 : decode cX7_book 121 = .ok (.getfield 99, 3) := by decide +kernel
theorem dX7_book_124 : decode cX7_book 124 = .ok (.iconst 1, 1) := by decide +kernel
theorem dX7_book_125 : decode cX7_book 125 = .ok (.isub, 1) := by decide +kernel
theorem dX7_book_126 : decode cX7_book 126 = .ok (.ireturn, 1) := by decide +kernel
theorem dX7_wrong_0 : decode cX7_wrong 0 = .ok (.aload_n 0, 1) := by decide +kernel
theorem dX7_wrong_1 : decode cX7_wrong 1 = .ok (.getfield 50, 3) := by decide +kernel
theorem dX7_wrong_4 : decode cX7_wrong 4 = .ok (.ireturn, 1) := by decide +kernel
theorem dX7_rule_0 : decode cX7_rule 0 = .ok (.iload_n 1, 1) := by decide +kernel
theorem dX7_rule_1 : decode cX7_rule 1 = .ok (.iconst 0, 1) := by decide +kernel
theorem dX7_rule_2 : decode cX7_rule 2 = .ok (.iconst 1, 1) := by decide +kernel
theorem dX7_rule_3 : decode cX7_rule 3 = .ok (.invokestatic 102, 3) := by decide +kernel
theorem dX7_rule_6 : decode cX7_rule 6 = .ok (.ifCond .ne 5, 3) := by decide +kernel
theorem dX7_rule_9 : decode cX7_rule 9 = .ok (.iconst 0, 1) := by decide +kernel
theorem dX7_rule_10 : decode cX7_rule 10 = .ok (.ireturn, 1) := by decide +kernel
theorem dX7_rule_11 : decode cX7_rule 11 = .ok (.aload_n 0, 1) := by decide +kernel
theorem dX7_rule_12 : decode cX7_rule 12 = .ok (.iload_n 1, 1) := by decide +kernel
theorem dX7_rule_13 : decode cX7_rule 13 = .ok (.putfield 128, 3) := by decide +kernel
theorem dX7_rule_16 : decode cX7_rule 16 = .ok (.iconst 1, 1) := by decide +kernel
theorem dX7_rule_17 : decode cX7_rule 17 = .ok (.ireturn, 1) := by decide +kernel
theorem dX7_keyOf_0 : decode cX7_keyOf 0 = .ok (.aload_n 0, 1) := by decide +kernel
theorem dX7_keyOf_1 : decode cX7_keyOf 1 = .ok (.getfield 20, 3) := by decide +kernel
theorem dX7_keyOf_4 : decode cX7_keyOf 4 = .ok (.iload_n 1, 1) := by decide +kernel
theorem dX7_keyOf_5 : decode cX7_keyOf 5 = .ok (.iaload, 1) := by decide +kernel
theorem dX7_keyOf_6 : decode cX7_keyOf 6 = .ok (.ifCond .ge 5, 3) := by decide +kernel
theorem dX7_keyOf_9 : decode cX7_keyOf 9 = .ok (.iconst (-1), 1) := by decide +kernel
theorem dX7_keyOf_10 : decode cX7_keyOf 10 = .ok (.ireturn, 1) := by decide +kernel
theorem dX7_keyOf_11 : decode cX7_keyOf 11 = .ok (.aload_n 0, 1) := by decide +kernel
theorem dX7_keyOf_12 : decode cX7_keyOf 12 = .ok (.getfield 20, 3) := by decide +kernel
theorem dX7_keyOf_15 : decode cX7_keyOf 15 = .ok (.iload_n 1, 1) := by decide +kernel
theorem dX7_keyOf_16 : decode cX7_keyOf 16 = .ok (.iaload, 1) := by decide +kernel
theorem dX7_keyOf_17 : decode cX7_keyOf 17 = .ok (.istore_n 3, 1) := by decide +kernel
theorem dX7_keyOf_18 : decode cX7_keyOf 18 = .ok (.iload_n 2, 1) := by decide +kernel
theorem dX7_keyOf_19 : decode cX7_keyOf 19 = .ok (.ifCond .ne 28, 3) := by decide +kernel
theorem dX7_keyOf_22 : decode cX7_keyOf 22 = .ok (.aload_n 0, 1) := by decide +kernel
theorem dX7_keyOf_23 : decode cX7_keyOf 23 = .ok (.getfield 23, 3) := by decide +kernel
theorem dX7_keyOf_26 : decode cX7_keyOf 26 = .ok (.iload_n 1, 1) := by decide +kernel
theorem dX7_keyOf_27 : decode cX7_keyOf 27 = .ok (.iaload, 1) := by decide +kernel
theorem dX7_keyOf_28 : decode cX7_keyOf 28 = .ok (.istore 4, 2) := by decide +kernel
theorem dX7_keyOf_30 : decode cX7_keyOf 30 = .ok (.iload 4, 2) := by decide +kernel
theorem dX7_keyOf_32 : decode cX7_keyOf 32 = .ok (.iconst 4, 1) := by decide +kernel
theorem dX7_keyOf_33 : decode cX7_keyOf 33 = .ok (.if_icmp .ge 14, 3) := by decide +kernel
theorem dX7_keyOf_36 : decode cX7_keyOf 36 = .ok (.iload_n 3, 1) := by decide +kernel
theorem dX7_keyOf_37 : decode cX7_keyOf 37 = .ok (.bipush 10, 2) := by decide +kernel
theorem dX7_keyOf_39 : decode cX7_keyOf 39 = .ok (.imul, 1) := by decide +kernel
theorem dX7_keyOf_40 : decode cX7_keyOf 40 = .ok (.istore_n 3, 1) := by decide +kernel
theorem dX7_keyOf_41 : decode cX7_keyOf 41 = .ok (.iinc 4 1, 3) := by decide +kernel
theorem dX7_keyOf_44 : decode cX7_keyOf 44 = .ok (.goto (-14), 3) := by decide +kernel
theorem dX7_keyOf_47 : decode cX7_keyOf 47 = .ok (.bipush 10, 2) := by decide +kernel
theorem dX7_keyOf_49 : decode cX7_keyOf 49 = .ok (.iload_n 3, 1) := by decide +kernel
theorem dX7_keyOf_50 : decode cX7_keyOf 50 = .ok (.imul, 1) := by decide +kernel
theorem dX7_keyOf_51 : decode cX7_keyOf 51 = .ok (.aload_n 0, 1) := by decide +kernel
theorem dX7_keyOf_52 : decode cX7_keyOf 52 = .ok (.getfield 23, 3) := by decide +kernel
theorem dX7_keyOf_55 : decode cX7_keyOf 55 = .ok (.iload_n 1, 1) := by decide +kernel
theorem dX7_keyOf_56 : decode cX7_keyOf 56 = .ok (.iaload, 1) := by decide +kernel
theorem dX7_keyOf_57 : decode cX7_keyOf 57 = .ok (.iadd, 1) := by decide +kernel
theorem dX7_keyOf_58 : decode cX7_keyOf 58 = .ok (.ireturn, 1) := by decide +kernel
theorem dX7_sign_0 : decode cX7_sign 0 = .ok (.iload_n 0, 1) := by decide +kernel
theorem dX7_sign_1 : decode cX7_sign 1 = .ok (.iload_n 1, 1) := by decide +kernel
theorem dX7_sign_2 : decode cX7_sign 2 = .ok (.if_icmp .ge 7, 3) := by decide +kernel
theorem dX7_sign_5 : decode cX7_sign 5 = .ok (.iconst (-1), 1) := by decide +kernel
theorem dX7_sign_6 : decode cX7_sign 6 = .ok (.goto 13, 3) := by decide +kernel
theorem dX7_sign_9 : decode cX7_sign 9 = .ok (.iload_n 0, 1) := by decide +kernel
theorem dX7_sign_10 : decode cX7_sign 10 = .ok (.iload_n 1, 1) := by decide +kernel
theorem dX7_sign_11 : decode cX7_sign 11 = .ok (.if_icmp .le 7, 3) := by decide +kernel
theorem dX7_sign_14 : decode cX7_sign 14 = .ok (.iconst 1, 1) := by decide +kernel
theorem dX7_sign_15 : decode cX7_sign 15 = .ok (.goto 4, 3) := by decide +kernel
theorem dX7_sign_18 : decode cX7_sign 18 = .ok (.iconst 0, 1) := by decide +kernel
theorem dX7_sign_19 : decode cX7_sign 19 = .ok (.ireturn, 1) := by decide +kernel
theorem dX7_against_0 : decode cX7_against 0 = .ok (.aload_n 0, 1) := by decide +kernel
theorem dX7_against_1 : decode cX7_against 1 = .ok (.getfield 16, 3) := by decide +kernel
theorem dX7_against_4 : decode cX7_against 4 = .ok (.iload_n 1, 1) := by decide +kernel
theorem dX7_against_5 : decode cX7_against 5 = .ok (.iaload, 1) := by decide +kernel
theorem dX7_against_6 : decode cX7_against 6 = .ok (.aload_n 0, 1) := by decide +kernel
theorem dX7_against_7 : decode cX7_against 7 = .ok (.getfield 16, 3) := by decide +kernel
theorem dX7_against_10 : decode cX7_against 10 = .ok (.iload_n 2, 1) := by decide +kernel
theorem dX7_against_11 : decode cX7_against 11 = .ok (.iaload, 1) := by decide +kernel
theorem dX7_against_12 : decode cX7_against 12 = .ok (.if_icmp .eq 19, 3) := by decide +kernel
theorem dX7_against_15 : decode cX7_against 15 = .ok (.aload_n 0, 1) := by decide +kernel
theorem dX7_against_16 : decode cX7_against 16 = .ok (.getfield 16, 3) := by decide +kernel
theorem dX7_against_19 : decode cX7_against 19 = .ok (.iload_n 1, 1) := by decide +kernel
theorem dX7_against_20 : decode cX7_against 20 = .ok (.iaload, 1) := by decide +kernel
theorem dX7_against_21 : decode cX7_against 21 = .ok (.aload_n 0, 1) := by decide +kernel
theorem dX7_against_22 : decode cX7_against 22 = .ok (.getfield 16, 3) := by decide +kernel
theorem dX7_against_25 : decode cX7_against 25 = .ok (.iload_n 2, 1) := by decide +kernel
theorem dX7_against_26 : decode cX7_against 26 = .ok (.iaload, 1) := by decide +kernel
theorem dX7_against_27 : decode cX7_against 27 = .ok (.invokestatic 131, 3) := by decide +kernel
theorem dX7_against_30 : decode cX7_against 30 = .ok (.ireturn, 1) := by decide +kernel
theorem dX7_against_31 : decode cX7_against 31 = .ok (.aload_n 0, 1) := by decide +kernel
theorem dX7_against_32 : decode cX7_against 32 = .ok (.iload_n 1, 1) := by decide +kernel
theorem dX7_against_33 : decode cX7_against 33 = .ok (.iload_n 3, 1) := by decide +kernel
theorem dX7_against_34 : decode cX7_against 34 = .ok (.invokevirtual 135, 3) := by decide +kernel
theorem dX7_against_37 : decode cX7_against 37 = .ok (.aload_n 0, 1) := by decide +kernel
theorem dX7_against_38 : decode cX7_against 38 = .ok (.iload_n 2, 1) := by decide +kernel
theorem dX7_against_39 : decode cX7_against 39 = .ok (.iload_n 3, 1) := by decide +kernel
theorem dX7_against_40 : decode cX7_against 40 = .ok (.invokevirtual 135, 3) := by decide +kernel
theorem dX7_against_43 : decode cX7_against 43 = .ok (.if_icmp .eq 19, 3) := by decide +kernel
theorem dX7_against_46 : decode cX7_against 46 = .ok (.aload_n 0, 1) := by decide +kernel
theorem dX7_against_47 : decode cX7_against 47 = .ok (.iload_n 1, 1) := by decide +kernel
theorem dX7_against_48 : decode cX7_against 48 = .ok (.iload_n 3, 1) := by decide +kernel
theorem dX7_against_49 : decode cX7_against 49 = .ok (.invokevirtual 135, 3) := by decide +kernel
theorem dX7_against_52 : decode cX7_against 52 = .ok (.aload_n 0, 1) := by decide +kernel
theorem dX7_against_53 : decode cX7_against 53 = .ok (.iload_n 2, 1) := by decide +kernel
theorem dX7_against_54 : decode cX7_against 54 = .ok (.iload_n 3, 1) := by decide +kernel
theorem dX7_against_55 : decode cX7_against 55 = .ok (.invokevirtual 135, 3) := by decide +kernel
theorem dX7_against_58 : decode cX7_against 58 = .ok (.invokestatic 131, 3) := by decide +kernel
theorem dX7_against_61 : decode cX7_against 61 = .ok (.ireturn, 1) := by decide +kernel
theorem dX7_against_62 : decode cX7_against 62 = .ok (.aload_n 0, 1) := by decide +kernel
theorem dX7_against_63 : decode cX7_against 63 = .ok (.getfield 26, 3) := by decide +kernel
theorem dX7_against_66 : decode cX7_against 66 = .ok (.iload_n 1, 1) := by decide +kernel
theorem dX7_against_67 : decode cX7_against 67 = .ok (.iaload, 1) := by decide +kernel
theorem dX7_against_68 : decode cX7_against 68 = .ok (.aload_n 0, 1) := by decide +kernel
theorem dX7_against_69 : decode cX7_against 69 = .ok (.getfield 26, 3) := by decide +kernel
theorem dX7_against_72 : decode cX7_against 72 = .ok (.iload_n 2, 1) := by decide +kernel
theorem dX7_against_73 : decode cX7_against 73 = .ok (.iaload, 1) := by decide +kernel
theorem dX7_against_74 : decode cX7_against 74 = .ok (.if_icmp .eq 21, 3) := by decide +kernel
theorem dX7_against_77 : decode cX7_against 77 = .ok (.aload_n 0, 1) := by decide +kernel
theorem dX7_against_78 : decode cX7_against 78 = .ok (.getfield 26, 3) := by decide +kernel
theorem dX7_against_81 : decode cX7_against 81 = .ok (.iload_n 1, 1) := by decide +kernel
theorem dX7_against_82 : decode cX7_against 82 = .ok (.iaload, 1) := by decide +kernel
theorem dX7_against_83 : decode cX7_against 83 = .ok (.aload_n 0, 1) := by decide +kernel
theorem dX7_against_84 : decode cX7_against 84 = .ok (.getfield 26, 3) := by decide +kernel
theorem dX7_against_87 : decode cX7_against 87 = .ok (.iload_n 2, 1) := by decide +kernel
theorem dX7_against_88 : decode cX7_against 88 = .ok (.iaload, 1) := by decide +kernel
theorem dX7_against_89 : decode cX7_against 89 = .ok (.invokestatic 131, 3) := by decide +kernel
theorem dX7_against_92 : decode cX7_against 92 = .ok (.goto 8, 3) := by decide +kernel
theorem dX7_against_95 : decode cX7_against 95 = .ok (.iload_n 1, 1) := by decide +kernel
theorem dX7_against_96 : decode cX7_against 96 = .ok (.iload_n 2, 1) := by decide +kernel
theorem dX7_against_97 : decode cX7_against 97 = .ok (.invokestatic 131, 3) := by decide +kernel
theorem dX7_against_100 : decode cX7_against 100 = .ok (.ireturn, 1) := by decide +kernel
theorem dX7_compare_0 : decode cX7_compare 0 = .ok (.aload_n 0, 1) := by decide +kernel
theorem dX7_compare_1 : decode cX7_compare 1 = .ok (.iload_n 1, 1) := by decide +kernel
theorem dX7_compare_2 : decode cX7_compare 2 = .ok (.invokevirtual 138, 3) := by decide +kernel
theorem dX7_compare_5 : decode cX7_compare 5 = .ok (.ifCond .eq 30, 3) := by decide +kernel
theorem dX7_compare_8 : decode cX7_compare 8 = .ok (.aload_n 0, 1) := by decide +kernel
theorem dX7_compare_9 : decode cX7_compare 9 = .ok (.iload_n 2, 1) := by decide +kernel
theorem dX7_compare_10 : decode cX7_compare 10 = .ok (.invokevirtual 138, 3) := by decide +kernel
theorem dX7_compare_13 : decode cX7_compare 13 = .ok (.ifCond .eq 22, 3) := by decide +kernel
theorem dX7_compare_16 : decode cX7_compare 16 = .ok (.iload_n 3, 1) := by decide +kernel
theorem dX7_compare_17 : decode cX7_compare 17 = .ok (.iconst 0, 1) := by decide +kernel
theorem dX7_compare_18 : decode cX7_compare 18 = .ok (.iconst 1, 1) := by decide +kernel
theorem dX7_compare_19 : decode cX7_compare 19 = .ok (.invokestatic 102, 3) := by decide +kernel
theorem dX7_compare_22 : decode cX7_compare 22 = .ok (.ifCond .eq 13, 3) := by decide +kernel
theorem dX7_compare_25 : decode cX7_compare 25 = .ok (.aload_n 0, 1) := by decide +kernel
theorem dX7_compare_26 : decode cX7_compare 26 = .ok (.iload_n 1, 1) := by decide +kernel
theorem dX7_compare_27 : decode cX7_compare 27 = .ok (.iload_n 2, 1) := by decide +kernel
theorem dX7_compare_28 : decode cX7_compare 28 = .ok (.iload_n 3, 1) := by decide +kernel
theorem dX7_compare_29 : decode cX7_compare 29 = .ok (.invokevirtual 141, 3) := by decide +kernel
theorem dX7_compare_32 : decode cX7_compare 32 = .ok (.goto 5, 3) := by decide +kernel
theorem dX7_compare_35 : decode cX7_compare 35 = .ok (.bipush (-2), 2) := by decide +kernel
theorem dX7_compare_37 : decode cX7_compare 37 = .ok (.ireturn, 1) := by decide +kernel
theorem dX7_sort_0 : decode cX7_sort 0 = .ok (.iconst 0, 1) := by decide +kernel
theorem dX7_sort_1 : decode cX7_sort 1 = .ok (.istore_n 2, 1) := by decide +kernel
theorem dX7_sort_2 : decode cX7_sort 2 = .ok (.iload_n 2, 1) := by decide +kernel
theorem dX7_sort_3 : decode cX7_sort 3 = .ok (.aload_n 0, 1) := by decide +kernel
theorem dX7_sort_4 : decode cX7_sort 4 = .ok (.getfield 99, 3) := by decide +kernel
theorem dX7_sort_7 : decode cX7_sort 7 = .ok (.if_icmp .ge 59, 3) := by decide +kernel
theorem dX7_sort_10 : decode cX7_sort 10 = .ok (.iload_n 2, 1) := by decide +kernel
theorem dX7_sort_11 : decode cX7_sort 11 = .ok (.istore_n 3, 1) := by decide +kernel
theorem dX7_sort_12 : decode cX7_sort 12 = .ok (.iload_n 3, 1) := by decide +kernel
theorem dX7_sort_13 : decode cX7_sort 13 = .ok (.ifCond .le 40, 3) := by decide +kernel
theorem dX7_sort_16 : decode cX7_sort 16 = .ok (.aload_n 0, 1) := by decide +kernel
theorem dX7_sort_17 : decode cX7_sort 17 = .ok (.aload_n 0, 1) := by decide +kernel
theorem dX7_sort_18 : decode cX7_sort 18 = .ok (.getfield 53, 3) := by decide +kernel
theorem dX7_sort_21 : decode cX7_sort 21 = .ok (.iload_n 3, 1) := by decide +kernel
theorem dX7_sort_22 : decode cX7_sort 22 = .ok (.iconst 1, 1) := by decide +kernel
theorem dX7_sort_23 : decode cX7_sort 23 = .ok (.isub, 1) := by decide +kernel
theorem dX7_sort_24 : decode cX7_sort 24 = .ok (.iaload, 1) := by decide +kernel
theorem dX7_sort_25 : decode cX7_sort 25 = .ok (.iload_n 2, 1) := by decide +kernel
theorem dX7_sort_26 : decode cX7_sort 26 = .ok (.iload_n 1, 1) := by decide +kernel
theorem dX7_sort_27 : decode cX7_sort 27 = .ok (.invokevirtual 141, 3) := by decide +kernel
theorem dX7_sort_30 : decode cX7_sort 30 = .ok (.ifCond .le 23, 3) := by decide +kernel
theorem dX7_sort_33 : decode cX7_sort 33 = .ok (.aload_n 0, 1) := by decide +kernel
theorem dX7_sort_34 : decode cX7_sort 34 = .ok (.getfield 53, 3) := by decide +kernel
theorem dX7_sort_37 : decode cX7_sort 37 = .ok (.iload_n 3, 1) := by decide +kernel
theorem dX7_sort_38 : decode cX7_sort 38 = .ok (.aload_n 0, 1) := by decide +kernel
theorem dX7_sort_39 : decode cX7_sort 39 = .ok (.getfield 53, 3) := by decide +kernel
theorem dX7_sort_42 : decode cX7_sort 42 = .ok (.iload_n 3, 1) := by decide +kernel
theorem dX7_sort_43 : decode cX7_sort 43 = .ok (.iconst 1, 1) := by decide +kernel
theorem dX7_sort_44 : decode cX7_sort 44 = .ok (.isub, 1) := by decide +kernel
theorem dX7_sort_45 : decode cX7_sort 45 = .ok (.iaload, 1) := by decide +kernel
theorem dX7_sort_46 : decode cX7_sort 46 = .ok (.iastore, 1) := by decide +kernel
theorem dX7_sort_47 : decode cX7_sort 47 = .ok (.iinc 3 (-1), 3) := by decide +kernel
theorem dX7_sort_50 : decode cX7_sort 50 = .ok (.goto (-38), 3) := by decide +kernel
theorem dX7_sort_53 : decode cX7_sort 53 = .ok (.aload_n 0, 1) := by decide +kernel
theorem dX7_sort_54 : decode cX7_sort 54 = .ok (.getfield 53, 3) := by decide +kernel
theorem dX7_sort_57 : decode cX7_sort 57 = .ok (.iload_n 3, 1) := by decide +kernel
theorem dX7_sort_58 : decode cX7_sort 58 = .ok (.iload_n 2, 1) := by decide +kernel
theorem dX7_sort_59 : decode cX7_sort 59 = .ok (.iastore, 1) := by decide +kernel
theorem dX7_sort_60 : decode cX7_sort 60 = .ok (.iinc 2 1, 3) := by decide +kernel
theorem dX7_sort_63 : decode cX7_sort 63 = .ok (.goto (-61), 3) := by decide +kernel
theorem dX7_sort_66 : decode cX7_sort 66 = .ok (.return_, 1) := by decide +kernel
theorem dX7_ordered_0 : decode cX7_ordered 0 = .ok (.iload_n 1, 1) := by decide +kernel
theorem dX7_ordered_1 : decode cX7_ordered 1 = .ok (.iconst 0, 1) := by decide +kernel
theorem dX7_ordered_2 : decode cX7_ordered 2 = .ok (.aload_n 0, 1) := by decide +kernel
theorem dX7_ordered_3 : decode cX7_ordered 3 = .ok (.getfield 99, 3) := by decide +kernel
theorem dX7_ordered_6 : decode cX7_ordered 6 = .ok (.iconst 1, 1) := by decide +kernel
theorem dX7_ordered_7 : decode cX7_ordered 7 = .ok (.isub, 1) := by decide +kernel
theorem dX7_ordered_8 : decode cX7_ordered 8 = .ok (.invokestatic 102, 3) := by decide +kernel
theorem dX7_ordered_11 : decode cX7_ordered 11 = .ok (.ifCond .eq 12, 3) := by decide +kernel
theorem dX7_ordered_14 : decode cX7_ordered 14 = .ok (.iload_n 2, 1) := by decide +kernel
theorem dX7_ordered_15 : decode cX7_ordered 15 = .ok (.iconst 0, 1) := by decide +kernel
theorem dX7_ordered_16 : decode cX7_ordered 16 = .ok (.iconst 1, 1) := by decide +kernel
theorem dX7_ordered_17 : decode cX7_ordered 17 = .ok (.invokestatic 102, 3) := by decide +kernel
theorem dX7_ordered_20 : decode cX7_ordered 20 = .ok (.ifCond .ne 5, 3) := by decide +kernel
theorem dX7_ordered_23 : decode cX7_ordered 23 = .ok (.iconst (-1), 1) := by decide +kernel
theorem dX7_ordered_24 : decode cX7_ordered 24 = .ok (.ireturn, 1) := by decide +kernel
theorem dX7_ordered_25 : decode cX7_ordered 25 = .ok (.aload_n 0, 1) := by decide +kernel
theorem dX7_ordered_26 : decode cX7_ordered 26 = .ok (.iload_n 2, 1) := by decide +kernel
theorem dX7_ordered_27 : decode cX7_ordered 27 = .ok (.invokevirtual 145, 3) := by decide +kernel
theorem dX7_ordered_30 : decode cX7_ordered 30 = .ok (.aload_n 0, 1) := by decide +kernel
theorem dX7_ordered_31 : decode cX7_ordered 31 = .ok (.getfield 53, 3) := by decide +kernel
theorem dX7_ordered_34 : decode cX7_ordered 34 = .ok (.iload_n 1, 1) := by decide +kernel
theorem dX7_ordered_35 : decode cX7_ordered 35 = .ok (.iaload, 1) := by decide +kernel
theorem dX7_ordered_36 : decode cX7_ordered 36 = .ok (.ireturn, 1) := by decide +kernel
theorem dX7_quarrels_0 : decode cX7_quarrels 0 = .ok (.iconst 0, 1) := by decide +kernel
theorem dX7_quarrels_1 : decode cX7_quarrels 1 = .ok (.istore_n 1, 1) := by decide +kernel
theorem dX7_quarrels_2 : decode cX7_quarrels 2 = .ok (.iconst 0, 1) := by decide +kernel
theorem dX7_quarrels_3 : decode cX7_quarrels 3 = .ok (.istore_n 2, 1) := by decide +kernel
theorem dX7_quarrels_4 : decode cX7_quarrels 4 = .ok (.iload_n 2, 1) := by decide +kernel
theorem dX7_quarrels_5 : decode cX7_quarrels 5 = .ok (.aload_n 0, 1) := by decide +kernel
theorem dX7_quarrels_6 : decode cX7_quarrels 6 = .ok (.getfield 99, 3) := by decide +kernel
theorem dX7_quarrels_9 : decode cX7_quarrels 9 = .ok (.if_icmp .ge 47, 3) := by decide +kernel
theorem dX7_quarrels_12 : decode cX7_quarrels 12 = .ok (.iconst 0, 1) := by decide +kernel
theorem dX7_quarrels_13 : decode cX7_quarrels 13 = .ok (.istore_n 3, 1) := by decide +kernel
theorem dX7_quarrels_14 : decode cX7_quarrels 14 = .ok (.iload_n 3, 1) := by decide +kernel
theorem dX7_quarrels_15 : decode cX7_quarrels 15 = .ok (.iload_n 2, 1) := by decide +kernel
theorem dX7_quarrels_16 : decode cX7_quarrels 16 = .ok (.if_icmp .ge 34, 3) := by decide +kernel
theorem dX7_quarrels_19 : decode cX7_quarrels 19 = .ok (.iload_n 1, 1) := by decide +kernel
theorem dX7_quarrels_20 : decode cX7_quarrels 20 = .ok (.aload_n 0, 1) := by decide +kernel
theorem dX7_quarrels_21 : decode cX7_quarrels 21 = .ok (.iload_n 2, 1) := by decide +kernel
theorem dX7_quarrels_22 : decode cX7_quarrels 22 = .ok (.iload_n 3, 1) := by decide +kernel
theorem dX7_quarrels_23 : decode cX7_quarrels 23 = .ok (.iconst 0, 1) := by decide +kernel
theorem dX7_quarrels_24 : decode cX7_quarrels 24 = .ok (.invokevirtual 141, 3) := by decide +kernel
theorem dX7_quarrels_27 : decode cX7_quarrels 27 = .ok (.aload_n 0, 1) := by decide +kernel
theorem dX7_quarrels_28 : decode cX7_quarrels 28 = .ok (.iload_n 2, 1) := by decide +kernel
theorem dX7_quarrels_29 : decode cX7_quarrels 29 = .ok (.iload_n 3, 1) := by decide +kernel
theorem dX7_quarrels_30 : decode cX7_quarrels 30 = .ok (.iconst 1, 1) := by decide +kernel
theorem dX7_quarrels_31 : decode cX7_quarrels 31 = .ok (.invokevirtual 141, 3) := by decide +kernel
theorem dX7_quarrels_34 : decode cX7_quarrels 34 = .ok (.if_icmp .eq 7, 3) := by decide +kernel
theorem dX7_quarrels_37 : decode cX7_quarrels 37 = .ok (.iconst 1, 1) := by decide +kernel
theorem dX7_quarrels_38 : decode cX7_quarrels 38 = .ok (.goto 4, 3) := by decide +kernel
theorem dX7_quarrels_41 : decode cX7_quarrels 41 = .ok (.iconst 0, 1) := by decide +kernel
theorem dX7_quarrels_42 : decode cX7_quarrels 42 = .ok (.iadd, 1) := by decide +kernel
theorem dX7_quarrels_43 : decode cX7_quarrels 43 = .ok (.istore_n 1, 1) := by decide +kernel
theorem dX7_quarrels_44 : decode cX7_quarrels 44 = .ok (.iinc 3 1, 3) := by decide +kernel
theorem dX7_quarrels_47 : decode cX7_quarrels 47 = .ok (.goto (-33), 3) := by decide +kernel
theorem dX7_quarrels_50 : decode cX7_quarrels 50 = .ok (.iinc 2 1, 3) := by decide +kernel
theorem dX7_quarrels_53 : decode cX7_quarrels 53 = .ok (.goto (-49), 3) := by decide +kernel
theorem dX7_quarrels_56 : decode cX7_quarrels 56 = .ok (.iload_n 1, 1) := by decide +kernel
theorem dX7_quarrels_57 : decode cX7_quarrels 57 = .ok (.ireturn, 1) := by decide +kernel
theorem dX7_shelf_0 : decode cX7_shelf 0 = .ok (.iload_n 1, 1) := by decide +kernel
theorem dX7_shelf_1 : decode cX7_shelf 1 = .ok (.iconst 1, 1) := by decide +kernel
theorem dX7_shelf_2 : decode cX7_shelf 2 = .ok (.sipush 2000, 3) := by decide +kernel
theorem dX7_shelf_5 : decode cX7_shelf 5 = .ok (.invokestatic 102, 3) := by decide +kernel
theorem dX7_shelf_8 : decode cX7_shelf 8 = .ok (.ifCond .eq 12, 3) := by decide +kernel
theorem dX7_shelf_11 : decode cX7_shelf 11 = .ok (.aload_n 0, 1) := by decide +kernel
theorem dX7_shelf_12 : decode cX7_shelf 12 = .ok (.getfield 148, 3) := by decide +kernel
theorem dX7_shelf_15 : decode cX7_shelf 15 = .ok (.bipush 16, 2) := by decide +kernel
theorem dX7_shelf_17 : decode cX7_shelf 17 = .ok (.if_icmp .ne 5, 3) := by decide +kernel
theorem dX7_shelf_20 : decode cX7_shelf 20 = .ok (.iconst (-1), 1) := by decide +kernel
theorem dX7_shelf_21 : decode cX7_shelf 21 = .ok (.ireturn, 1) := by decide +kernel
theorem dX7_shelf_22 : decode cX7_shelf 22 = .ok (.aload_n 0, 1) := by decide +kernel
theorem dX7_shelf_23 : decode cX7_shelf 23 = .ok (.getfield 38, 3) := by decide +kernel
theorem dX7_shelf_26 : decode cX7_shelf 26 = .ok (.aload_n 0, 1) := by decide +kernel
theorem dX7_shelf_27 : decode cX7_shelf 27 = .ok (.getfield 148, 3) := by decide +kernel
theorem dX7_shelf_30 : decode cX7_shelf 30 = .ok (.iload_n 1, 1) := by decide +kernel
theorem dX7_shelf_31 : decode cX7_shelf 31 = .ok (.iastore, 1) := by decide +kernel
theorem dX7_shelf_32 : decode cX7_shelf 32 = .ok (.aload_n 0, 1) := by decide +kernel
theorem dX7_shelf_33 : decode cX7_shelf 33 = .ok (.dup, 1) := by decide +kernel
theorem dX7_shelf_34 : decode cX7_shelf 34 = .ok (.getfield 148, 3) := by decide +kernel
theorem dX7_shelf_37 : decode cX7_shelf 37 = .ok (.iconst 1, 1) := by decide +kernel
theorem dX7_shelf_38 : decode cX7_shelf 38 = .ok (.iadd, 1) := by decide +kernel
theorem dX7_shelf_39 : decode cX7_shelf 39 = .ok (.putfield 148, 3) := by decide +kernel
theorem dX7_shelf_42 : decode cX7_shelf 42 = .ok (.aload_n 0, 1) := by decide +kernel
theorem dX7_shelf_43 : decode cX7_shelf 43 = .ok (.getfield 148, 3) := by decide +kernel
theorem dX7_shelf_46 : decode cX7_shelf 46 = .ok (.iconst 1, 1) := by decide +kernel
theorem dX7_shelf_47 : decode cX7_shelf 47 = .ok (.isub, 1) := by decide +kernel
theorem dX7_shelf_48 : decode cX7_shelf 48 = .ok (.ireturn, 1) := by decide +kernel
theorem dX7_sizes_0 : decode cX7_sizes 0 = .ok (.iload_n 1, 1) := by decide +kernel
theorem dX7_sizes_1 : decode cX7_sizes 1 = .ok (.iconst 0, 1) := by decide +kernel
theorem dX7_sizes_2 : decode cX7_sizes 2 = .ok (.bipush 9, 2) := by decide +kernel
theorem dX7_sizes_4 : decode cX7_sizes 4 = .ok (.invokestatic 102, 3) := by decide +kernel
theorem dX7_sizes_7 : decode cX7_sizes 7 = .ok (.ifCond .eq 22, 3) := by decide +kernel
theorem dX7_sizes_10 : decode cX7_sizes 10 = .ok (.iload_n 2, 1) := by decide +kernel
theorem dX7_sizes_11 : decode cX7_sizes 11 = .ok (.iconst 0, 1) := by decide +kernel
theorem dX7_sizes_12 : decode cX7_sizes 12 = .ok (.bipush 100, 2) := by decide +kernel
theorem dX7_sizes_14 : decode cX7_sizes 14 = .ok (.invokestatic 102, 3) := by decide +kernel
theorem dX7_sizes_17 : decode cX7_sizes 17 = .ok (.ifCond .eq 12, 3) := by decide +kernel
theorem dX7_sizes_20 : decode cX7_sizes 20 = .ok (.aload_n 0, 1) := by decide +kernel
theorem dX7_sizes_21 : decode cX7_sizes 21 = .ok (.getfield 41, 3) := by decide +kernel
theorem dX7_sizes_24 : decode cX7_sizes 24 = .ok (.iload_n 1, 1) := by decide +kernel
theorem dX7_sizes_25 : decode cX7_sizes 25 = .ok (.iload_n 2, 1) := by decide +kernel
theorem dX7_sizes_26 : decode cX7_sizes 26 = .ok (.iastore, 1) := by decide +kernel
theorem dX7_sizes_27 : decode cX7_sizes 27 = .ok (.iconst 1, 1) := by decide +kernel
theorem dX7_sizes_28 : decode cX7_sizes 28 = .ok (.ireturn, 1) := by decide +kernel
theorem dX7_sizes_29 : decode cX7_sizes 29 = .ok (.iload_n 1, 1) := by decide +kernel
theorem dX7_sizes_30 : decode cX7_sizes 30 = .ok (.iconst (-1), 1) := by decide +kernel
theorem dX7_sizes_31 : decode cX7_sizes 31 = .ok (.if_icmp .ne 20, 3) := by decide +kernel
theorem dX7_sizes_34 : decode cX7_sizes 34 = .ok (.iload_n 2, 1) := by decide +kernel
theorem dX7_sizes_35 : decode cX7_sizes 35 = .ok (.iconst 1, 1) := by decide +kernel
theorem dX7_sizes_36 : decode cX7_sizes 36 = .ok (.bipush 100, 2) := by decide +kernel
theorem dX7_sizes_38 : decode cX7_sizes 38 = .ok (.invokestatic 102, 3) := by decide +kernel
theorem dX7_sizes_41 : decode cX7_sizes 41 = .ok (.ifCond .eq 10, 3) := by decide +kernel
theorem dX7_sizes_44 : decode cX7_sizes 44 = .ok (.aload_n 0, 1) := by decide +kernel
theorem dX7_sizes_45 : decode cX7_sizes 45 = .ok (.iload_n 2, 1) := by decide +kernel
theorem dX7_sizes_46 : decode cX7_sizes 46 = .ok (.putfield 7, 3) := by decide +kernel
theorem dX7_sizes_49 : decode cX7_sizes 49 = .ok (.iconst 1, 1) := by decide +kernel
theorem dX7_sizes_50 : decode cX7_sizes 50 = .ok (.ireturn, 1) := by decide +kernel
theorem dX7_sizes_51 : decode cX7_sizes 51 = .ok (.iload_n 1, 1) := by decide +kernel
theorem dX7_sizes_52 : decode cX7_sizes 52 = .ok (.bipush (-2), 2) := by decide +kernel
theorem dX7_sizes_54 : decode cX7_sizes 54 = .ok (.if_icmp .ne 14, 3) := by decide +kernel
theorem dX7_sizes_57 : decode cX7_sizes 57 = .ok (.iload_n 2, 1) := by decide +kernel
theorem dX7_sizes_58 : decode cX7_sizes 58 = .ok (.iconst 1, 1) := by decide +kernel
theorem dX7_sizes_59 : decode cX7_sizes 59 = .ok (.sipush 1000, 3) := by decide +kernel
theorem dX7_sizes_62 : decode cX7_sizes 62 = .ok (.invokestatic 102, 3) := by decide +kernel
theorem dX7_sizes_65 : decode cX7_sizes 65 = .ok (.ifCond .ne 5, 3) := by decide +kernel
theorem dX7_sizes_68 : decode cX7_sizes 68 = .ok (.iconst 0, 1) := by decide +kernel
theorem dX7_sizes_69 : decode cX7_sizes 69 = .ok (.ireturn, 1) := by decide +kernel
theorem dX7_sizes_70 : decode cX7_sizes 70 = .ok (.aload_n 0, 1) := by decide +kernel
theorem dX7_sizes_71 : decode cX7_sizes 71 = .ok (.iload_n 2, 1) := by decide +kernel
theorem dX7_sizes_72 : decode cX7_sizes 72 = .ok (.putfield 13, 3) := by decide +kernel
theorem dX7_sizes_75 : decode cX7_sizes 75 = .ok (.iconst 1, 1) := by decide +kernel
theorem dX7_sizes_76 : decode cX7_sizes 76 = .ok (.ireturn, 1) := by decide +kernel
theorem dX7_lay_0 : decode cX7_lay 0 = .ok (.aload_n 0, 1) := by decide +kernel
theorem dX7_lay_1 : decode cX7_lay 1 = .ok (.aload_n 0, 1) := by decide +kernel
theorem dX7_lay_2 : decode cX7_lay 2 = .ok (.getfield 128, 3) := by decide +kernel
theorem dX7_lay_5 : decode cX7_lay 5 = .ok (.invokevirtual 145, 3) := by decide +kernel
theorem dX7_lay_8 : decode cX7_lay 8 = .ok (.aload_n 0, 1) := by decide +kernel
theorem dX7_lay_9 : decode cX7_lay 9 = .ok (.iconst 0, 1) := by decide +kernel
theorem dX7_lay_10 : decode cX7_lay 10 = .ok (.putfield 151, 3) := by decide +kernel
theorem dX7_lay_13 : decode cX7_lay 13 = .ok (.aload_n 0, 1) := by decide +kernel
theorem dX7_lay_14 : decode cX7_lay 14 = .ok (.iconst 0, 1) := by decide +kernel
theorem dX7_lay_15 : decode cX7_lay 15 = .ok (.putfield 154, 3) := by decide +kernel
theorem dX7_lay_18 : decode cX7_lay 18 = .ok (.iconst 0, 1) := by decide +kernel
theorem dX7_lay_19 : decode cX7_lay 19 = .ok (.istore_n 1, 1) := by decide +kernel
theorem dX7_lay_20 : decode cX7_lay 20 = .ok (.iload_n 1, 1) := by decide +kernel
theorem dX7_lay_21 : decode cX7_lay 21 = .ok (.aload_n 0, 1) := by decide +kernel
theorem dX7_lay_22 : decode cX7_lay 22 = .ok (.getfield 148, 3) := by decide +kernel
theorem dX7_lay_25 : decode cX7_lay 25 = .ok (.if_icmp .ge 23, 3) := by decide +kernel
theorem dX7_lay_28 : decode cX7_lay 28 = .ok (.aload_n 0, 1) := by decide +kernel
theorem dX7_lay_29 : decode cX7_lay 29 = .ok (.getfield 62, 3) := by decide +kernel
theorem dX7_lay_32 : decode cX7_lay 32 = .ok (.iload_n 1, 1) := by decide +kernel
theorem dX7_lay_33 : decode cX7_lay 33 = .ok (.iconst 0, 1) := by decide +kernel
theorem dX7_lay_34 : decode cX7_lay 34 = .ok (.iastore, 1) := by decide +kernel
theorem dX7_lay_35 : decode cX7_lay 35 = .ok (.aload_n 0, 1) := by decide +kernel
theorem dX7_lay_36 : decode cX7_lay 36 = .ok (.getfield 65, 3) := by decide +kernel
theorem dX7_lay_39 : decode cX7_lay 39 = .ok (.iload_n 1, 1) := by decide +kernel
theorem dX7_lay_40 : decode cX7_lay 40 = .ok (.iconst 0, 1) := by decide +kernel
theorem dX7_lay_41 : decode cX7_lay 41 = .ok (.iastore, 1) := by decide +kernel
theorem dX7_lay_42 : decode cX7_lay 42 = .ok (.iinc 1 1, 3) := by decide +kernel
theorem dX7_lay_45 : decode cX7_lay 45 = .ok (.goto (-25), 3) := by decide +kernel
theorem dX7_lay_48 : decode cX7_lay 48 = .ok (.iconst 0, 1) := by decide +kernel
theorem dX7_lay_49 : decode cX7_lay 49 = .ok (.istore_n 1, 1) := by decide +kernel
theorem dX7_lay_50 : decode cX7_lay 50 = .ok (.iconst 0, 1) := by decide +kernel
theorem dX7_lay_51 : decode cX7_lay 51 = .ok (.istore_n 2, 1) := by decide +kernel
theorem dX7_lay_52 : decode cX7_lay 52 = .ok (.iload_n 2, 1) := by decide +kernel
theorem dX7_lay_53 : decode cX7_lay 53 = .ok (.aload_n 0, 1) := by decide +kernel
theorem dX7_lay_54 : decode cX7_lay 54 = .ok (.getfield 99, 3) := by decide +kernel
theorem dX7_lay_57 : decode cX7_lay 57 = .ok (.if_icmp .ge 172, 3) := by decide +kernel
theorem dX7_lay_60 : decode cX7_lay 60 = .ok (.aload_n 0, 1) := by decide +kernel
theorem dX7_lay_61 : decode cX7_lay 61 = .ok (.getfield 53, 3) := by decide +kernel
theorem dX7_lay_64 : decode cX7_lay 64 = .ok (.iload_n 2, 1) := by decide +kernel
theorem dX7_lay_65 : decode cX7_lay 65 = .ok (.iaload, 1) := by decide +kernel
theorem dX7_lay_66 : decode cX7_lay 66 = .ok (.istore_n 3, 1) := by decide +kernel
theorem dX7_lay_67 : decode cX7_lay 67 = .ok (.aload_n 0, 1) := by decide +kernel
theorem dX7_lay_68 : decode cX7_lay 68 = .ok (.getfield 56, 3) := by decide +kernel
theorem dX7_lay_71 : decode cX7_lay 71 = .ok (.iload_n 3, 1) := by decide +kernel
theorem dX7_lay_72 : decode cX7_lay 72 = .ok (.iconst (-1), 1) := by decide +kernel
theorem dX7_lay_73 : decode cX7_lay 73 = .ok (.iastore, 1) := by decide +kernel
theorem dX7_lay_74 : decode cX7_lay 74 = .ok (.aload_n 0, 1) := by decide +kernel
theorem dX7_lay_75 : decode cX7_lay 75 = .ok (.getfield 35, 3) := by decide +kernel
theorem dX7_lay_78 : decode cX7_lay 78 = .ok (.iload_n 3, 1) := by decide +kernel
theorem dX7_lay_79 : decode cX7_lay 79 = .ok (.iaload, 1) := by decide +kernel
theorem dX7_lay_80 : decode cX7_lay 80 = .ok (.aload_n 0, 1) := by decide +kernel
theorem dX7_lay_81 : decode cX7_lay 81 = .ok (.getfield 7, 3) := by decide +kernel
theorem dX7_lay_84 : decode cX7_lay 84 = .ok (.if_icmp .le 16, 3) := by decide +kernel
theorem dX7_lay_87 : decode cX7_lay 87 = .ok (.aload_n 0, 1) := by decide +kernel
theorem dX7_lay_88 : decode cX7_lay 88 = .ok (.dup, 1) := by decide +kernel
theorem dX7_lay_89 : decode cX7_lay 89 = .ok (.getfield 151, 3) := by decide +kernel
theorem dX7_lay_92 : decode cX7_lay 92 = .ok (.iconst 1, 1) := by decide +kernel
theorem dX7_lay_93 : decode cX7_lay 93 = .ok (.iadd, 1) := by decide +kernel
theorem dX7_lay_94 : decode cX7_lay 94 = .ok (.putfield 151, 3) := by decide +kernel
theorem dX7_lay_97 : decode cX7_lay 97 = .ok (.goto 126, 3) := by decide +kernel
theorem dX7_lay_100 : decode cX7_lay 100 = .ok (.aload_n 0, 1) := by decide +kernel
theorem dX7_lay_101 : decode cX7_lay 101 = .ok (.getfield 32, 3) := by decide +kernel
theorem dX7_lay_104 : decode cX7_lay 104 = .ok (.iload_n 3, 1) := by decide +kernel
theorem dX7_lay_105 : decode cX7_lay 105 = .ok (.iaload, 1) := by decide +kernel
theorem dX7_lay_106 : decode cX7_lay 106 = .ok (.bipush 100, 2) := by decide +kernel
theorem dX7_lay_108 : decode cX7_lay 108 = .ok (.aload_n 0, 1) := by decide +kernel
theorem dX7_lay_109 : decode cX7_lay 109 = .ok (.getfield 41, 3) := by decide +kernel
theorem dX7_lay_112 : decode cX7_lay 112 = .ok (.aload_n 0, 1) := by decide +kernel
theorem dX7_lay_113 : decode cX7_lay 113 = .ok (.getfield 16, 3) := by decide +kernel
theorem dX7_lay_116 : decode cX7_lay 116 = .ok (.iload_n 3, 1) := by decide +kernel
theorem dX7_lay_117 : decode cX7_lay 117 = .ok (.iaload, 1) := by decide +kernel
theorem dX7_lay_118 : decode cX7_lay 118 = .ok (.sipush 1000, 3) := by decide +kernel
theorem dX7_lay_121 : decode cX7_lay 121 = .ok (.idiv, 1) := by decide +kernel
theorem dX7_lay_122 : decode cX7_lay 122 = .ok (.iaload, 1) := by decide +kernel
theorem dX7_lay_123 : decode cX7_lay 123 = .ok (.iadd, 1) := by decide +kernel
theorem dX7_lay_124 : decode cX7_lay 124 = .ok (.imul, 1) := by decide +kernel
theorem dX7_lay_125 : decode cX7_lay 125 = .ok (.istore 4, 2) := by decide +kernel
theorem dX7_lay_127 : decode cX7_lay 127 = .ok (.iload_n 1, 1) := by decide +kernel
theorem dX7_lay_128 : decode cX7_lay 128 = .ok (.aload_n 0, 1) := by decide +kernel
theorem dX7_lay_129 : decode cX7_lay 129 = .ok (.getfield 148, 3) := by decide +kernel
theorem dX7_lay_132 : decode cX7_lay 132 = .ok (.if_icmp .ge 30, 3) := by decide +kernel
theorem dX7_lay_135 : decode cX7_lay 135 = .ok (.aload_n 0, 1) := by decide +kernel
theorem dX7_lay_136 : decode cX7_lay 136 = .ok (.getfield 65, 3) := by decide +kernel
theorem dX7_lay_139 : decode cX7_lay 139 = .ok (.iload_n 1, 1) := by decide +kernel
theorem dX7_lay_140 : decode cX7_lay 140 = .ok (.iaload, 1) := by decide +kernel
theorem dX7_lay_141 : decode cX7_lay 141 = .ok (.iload 4, 2) := by decide +kernel
theorem dX7_lay_143 : decode cX7_lay 143 = .ok (.iadd, 1) := by decide +kernel
theorem dX7_lay_144 : decode cX7_lay 144 = .ok (.bipush 100, 2) := by decide +kernel
theorem dX7_lay_146 : decode cX7_lay 146 = .ok (.aload_n 0, 1) := by decide +kernel
theorem dX7_lay_147 : decode cX7_lay 147 = .ok (.getfield 38, 3) := by decide +kernel
theorem dX7_lay_150 : decode cX7_lay 150 = .ok (.iload_n 1, 1) := by decide +kernel
theorem dX7_lay_151 : decode cX7_lay 151 = .ok (.iaload, 1) := by decide +kernel
theorem dX7_lay_152 : decode cX7_lay 152 = .ok (.imul, 1) := by decide +kernel
theorem dX7_lay_153 : decode cX7_lay 153 = .ok (.if_icmp .le 9, 3) := by decide +kernel
theorem dX7_lay_156 : decode cX7_lay 156 = .ok (.iinc 1 1, 3) := by decide +kernel
theorem dX7_lay_159 : decode cX7_lay 159 = .ok (.goto (-32), 3) := by decide +kernel
theorem dX7_lay_162 : decode cX7_lay 162 = .ok (.iload_n 1, 1) := by decide +kernel
theorem dX7_lay_163 : decode cX7_lay 163 = .ok (.aload_n 0, 1) := by decide +kernel
theorem dX7_lay_164 : decode cX7_lay 164 = .ok (.getfield 148, 3) := by decide +kernel
theorem dX7_lay_167 : decode cX7_lay 167 = .ok (.if_icmp .ne 16, 3) := by decide +kernel
theorem dX7_lay_170 : decode cX7_lay 170 = .ok (.aload_n 0, 1) := by decide +kernel
theorem dX7_lay_171 : decode cX7_lay 171 = .ok (.dup, 1) := by decide +kernel
theorem dX7_lay_172 : decode cX7_lay 172 = .ok (.getfield 154, 3) := by decide +kernel
theorem dX7_lay_175 : decode cX7_lay 175 = .ok (.iconst 1, 1) := by decide +kernel
theorem dX7_lay_176 : decode cX7_lay 176 = .ok (.iadd, 1) := by decide +kernel
theorem dX7_lay_177 : decode cX7_lay 177 = .ok (.putfield 154, 3) := by decide +kernel
theorem dX7_lay_180 : decode cX7_lay 180 = .ok (.goto 43, 3) := by decide +kernel
theorem dX7_lay_183 : decode cX7_lay 183 = .ok (.aload_n 0, 1) := by decide +kernel
theorem dX7_lay_184 : decode cX7_lay 184 = .ok (.getfield 56, 3) := by decide +kernel
theorem dX7_lay_187 : decode cX7_lay 187 = .ok (.iload_n 3, 1) := by decide +kernel
theorem dX7_lay_188 : decode cX7_lay 188 = .ok (.iload_n 1, 1) := by decide +kernel
theorem dX7_lay_189 : decode cX7_lay 189 = .ok (.iastore, 1) := by decide +kernel
theorem dX7_lay_190 : decode cX7_lay 190 = .ok (.aload_n 0, 1) := by decide +kernel
theorem dX7_lay_191 : decode cX7_lay 191 = .ok (.getfield 59, 3) := by decide +kernel
theorem dX7_lay_194 : decode cX7_lay 194 = .ok (.iload_n 3, 1) := by decide +kernel
theorem dX7_lay_195 : decode cX7_lay 195 = .ok (.aload_n 0, 1) := by decide +kernel
theorem dX7_lay_196 : decode cX7_lay 196 = .ok (.getfield 62, 3) := by decide +kernel
theorem dX7_lay_199 : decode cX7_lay 199 = .ok (.iload_n 1, 1) := by decide +kernel
theorem dX7_lay_200 : decode cX7_lay 200 = .ok (.iaload, 1) := by decide +kernel
theorem dX7_lay_201 : decode cX7_lay 201 = .ok (.iastore, 1) := by decide +kernel
theorem dX7_lay_202 : decode cX7_lay 202 = .ok (.aload_n 0, 1) := by decide +kernel
theorem dX7_lay_203 : decode cX7_lay 203 = .ok (.getfield 62, 3) := by decide +kernel
theorem dX7_lay_206 : decode cX7_lay 206 = .ok (.iload_n 1, 1) := by decide +kernel
theorem dX7_lay_207 : decode cX7_lay 207 = .ok (.dup2, 1) := by decide +kernel
theorem dX7_lay_208 : decode cX7_lay 208 = .ok (.iaload, 1) := by decide +kernel
theorem dX7_lay_209 : decode cX7_lay 209 = .ok (.iconst 1, 1) := by decide +kernel
theorem dX7_lay_210 : decode cX7_lay 210 = .ok (.iadd, 1) := by decide +kernel
theorem dX7_lay_211 : decode cX7_lay 211 = .ok (.iastore, 1) := by decide +kernel
theorem dX7_lay_212 : decode cX7_lay 212 = .ok (.aload_n 0, 1) := by decide +kernel
theorem dX7_lay_213 : decode cX7_lay 213 = .ok (.getfield 65, 3) := by decide +kernel
theorem dX7_lay_216 : decode cX7_lay 216 = .ok (.iload_n 1, 1) := by decide +kernel
theorem dX7_lay_217 : decode cX7_lay 217 = .ok (.dup2, 1) := by decide +kernel
theorem dX7_lay_218 : decode cX7_lay 218 = .ok (.iaload, 1) := by decide +kernel
theorem dX7_lay_219 : decode cX7_lay 219 = .ok (.iload 4, 2) := by decide +kernel
theorem dX7_lay_221 : decode cX7_lay 221 = .ok (.iadd, 1) := by decide +kernel
theorem dX7_lay_222 : decode cX7_lay 222 = .ok (.iastore, 1) := by decide +kernel
theorem dX7_lay_223 : decode cX7_lay 223 = .ok (.iinc 2 1, 3) := by decide +kernel
theorem dX7_lay_226 : decode cX7_lay 226 = .ok (.goto (-174), 3) := by decide +kernel
theorem dX7_lay_229 : decode cX7_lay 229 = .ok (.return_, 1) := by decide +kernel
theorem dX7_laid_0 : decode cX7_laid 0 = .ok (.aload_n 0, 1) := by decide +kernel
theorem dX7_laid_1 : decode cX7_laid 1 = .ok (.iload_n 1, 1) := by decide +kernel
theorem dX7_laid_2 : decode cX7_laid 2 = .ok (.invokevirtual 138, 3) := by decide +kernel
theorem dX7_laid_5 : decode cX7_laid 5 = .ok (.ifCond .ne 5, 3) := by decide +kernel
theorem dX7_laid_8 : decode cX7_laid 8 = .ok (.iconst (-1), 1) := by decide +kernel
theorem dX7_laid_9 : decode cX7_laid 9 = .ok (.ireturn, 1) := by decide +kernel
theorem dX7_laid_10 : decode cX7_laid 10 = .ok (.aload_n 0, 1) := by decide +kernel
theorem dX7_laid_11 : decode cX7_laid 11 = .ok (.invokevirtual 157, 3) := by decide +kernel
theorem dX7_laid_14 : decode cX7_laid 14 = .ok (.aload_n 0, 1) := by decide +kernel
theorem dX7_laid_15 : decode cX7_laid 15 = .ok (.getfield 56, 3) := by decide +kernel
theorem dX7_laid_18 : decode cX7_laid 18 = .ok (.iload_n 1, 1) := by decide +kernel
theorem dX7_laid_19 : decode cX7_laid 19 = .ok (.iaload, 1) := by decide +kernel
theorem dX7_laid_20 : decode cX7_laid 20 = .ok (.ifCond .ge 7, 3) := by decide +kernel
theorem dX7_laid_23 : decode cX7_laid 23 = .ok (.iconst (-1), 1) := by decide +kernel
theorem dX7_laid_24 : decode cX7_laid 24 = .ok (.goto 31, 3) := by decide +kernel
theorem dX7_laid_27 : decode cX7_laid 27 = .ok (.iload_n 2, 1) := by decide +kernel
theorem dX7_laid_28 : decode cX7_laid 28 = .ok (.ifCond .ne 12, 3) := by decide +kernel
theorem dX7_laid_31 : decode cX7_laid 31 = .ok (.aload_n 0, 1) := by decide +kernel
theorem dX7_laid_32 : decode cX7_laid 32 = .ok (.getfield 56, 3) := by decide +kernel
theorem dX7_laid_35 : decode cX7_laid 35 = .ok (.iload_n 1, 1) := by decide +kernel
theorem dX7_laid_36 : decode cX7_laid 36 = .ok (.iaload, 1) := by decide +kernel
theorem dX7_laid_37 : decode cX7_laid 37 = .ok (.goto 18, 3) := by decide +kernel
theorem dX7_laid_40 : decode cX7_laid 40 = .ok (.iload_n 2, 1) := by decide +kernel
theorem dX7_laid_41 : decode cX7_laid 41 = .ok (.iconst 1, 1) := by decide +kernel
theorem dX7_laid_42 : decode cX7_laid 42 = .ok (.if_icmp .ne 12, 3) := by decide +kernel
theorem dX7_laid_45 : decode cX7_laid 45 = .ok (.aload_n 0, 1) := by decide +kernel
theorem dX7_laid_46 : decode cX7_laid 46 = .ok (.getfield 59, 3) := by decide +kernel
theorem dX7_laid_49 : decode cX7_laid 49 = .ok (.iload_n 1, 1) := by decide +kernel
theorem dX7_laid_50 : decode cX7_laid 50 = .ok (.iaload, 1) := by decide +kernel
theorem dX7_laid_51 : decode cX7_laid 51 = .ok (.goto 4, 3) := by decide +kernel
theorem dX7_laid_54 : decode cX7_laid 54 = .ok (.iconst (-1), 1) := by decide +kernel
theorem dX7_laid_55 : decode cX7_laid 55 = .ok (.ireturn, 1) := by decide +kernel
theorem dX7_shelfOf_0 : decode cX7_shelfOf 0 = .ok (.iload_n 1, 1) := by decide +kernel
theorem dX7_shelfOf_1 : decode cX7_shelfOf 1 = .ok (.iconst 0, 1) := by decide +kernel
theorem dX7_shelfOf_2 : decode cX7_shelfOf 2 = .ok (.aload_n 0, 1) := by decide +kernel
theorem dX7_shelfOf_3 : decode cX7_shelfOf 3 = .ok (.getfield 148, 3) := by decide +kernel
theorem dX7_shelfOf_6 : decode cX7_shelfOf 6 = .ok (.iconst 1, 1) := by decide +kernel
theorem dX7_shelfOf_7 : decode cX7_shelfOf 7 = .ok (.isub, 1) := by decide +kernel
theorem dX7_shelfOf_8 : decode cX7_shelfOf 8 = .ok (.invokestatic 102, 3) := by decide +kernel
theorem dX7_shelfOf_11 : decode cX7_shelfOf 11 = .ok (.ifCond .ne 5, 3) := by decide +kernel
theorem dX7_shelfOf_14 : decode cX7_shelfOf 14 = .ok (.iconst (-1), 1) := by decide +kernel
theorem dX7_shelfOf_15 : decode cX7_shelfOf 15 = .ok (.ireturn, 1) := by decide +kernel
theorem dX7_shelfOf_16 : decode cX7_shelfOf 16 = .ok (.aload_n 0, 1) := by decide +kernel
theorem dX7_shelfOf_17 : decode cX7_shelfOf 17 = .ok (.invokevirtual 157, 3) := by decide +kernel
theorem dX7_shelfOf_20 : decode cX7_shelfOf 20 = .ok (.iload_n 2, 1) := by decide +kernel
theorem dX7_shelfOf_21 : decode cX7_shelfOf 21 = .ok (.ifCond .ne 12, 3) := by decide +kernel
theorem dX7_shelfOf_24 : decode cX7_shelfOf 24 = .ok (.aload_n 0, 1) := by decide +kernel
theorem dX7_shelfOf_25 : decode cX7_shelfOf 25 = .ok (.getfield 62, 3) := by decide +kernel
theorem dX7_shelfOf_28 : decode cX7_shelfOf 28 = .ok (.iload_n 1, 1) := by decide +kernel
theorem dX7_shelfOf_29 : decode cX7_shelfOf 29 = .ok (.iaload, 1) := by decide +kernel
theorem dX7_shelfOf_30 : decode cX7_shelfOf 30 = .ok (.goto 28, 3) := by decide +kernel
theorem dX7_shelfOf_33 : decode cX7_shelfOf 33 = .ok (.iload_n 2, 1) := by decide +kernel
theorem dX7_shelfOf_34 : decode cX7_shelfOf 34 = .ok (.iconst 1, 1) := by decide +kernel
theorem dX7_shelfOf_35 : decode cX7_shelfOf 35 = .ok (.if_icmp .ne 22, 3) := by decide +kernel
theorem dX7_shelfOf_38 : decode cX7_shelfOf 38 = .ok (.bipush 100, 2) := by decide +kernel
theorem dX7_shelfOf_40 : decode cX7_shelfOf 40 = .ok (.aload_n 0, 1) := by decide +kernel
theorem dX7_shelfOf_41 : decode cX7_shelfOf 41 = .ok (.getfield 38, 3) := by decide +kernel
theorem dX7_shelfOf_44 : decode cX7_shelfOf 44 = .ok (.iload_n 1, 1) := by decide +kernel
theorem dX7_shelfOf_45 : decode cX7_shelfOf 45 = .ok (.iaload, 1) := by decide +kernel
theorem dX7_shelfOf_46 : decode cX7_shelfOf 46 = .ok (.imul, 1) := by decide +kernel
theorem dX7_shelfOf_47 : decode cX7_shelfOf 47 = .ok (.aload_n 0, 1) := by decide +kernel
theorem dX7_shelfOf_48 : decode cX7_shelfOf 48 = .ok (.getfield 65, 3) := by decide +kernel
theorem dX7_shelfOf_51 : decode cX7_shelfOf 51 = .ok (.iload_n 1, 1) := by decide +kernel
theorem dX7_shelfOf_52 : decode cX7_shelfOf 52 = .ok (.iaload, 1) := by decide +kernel
theorem dX7_shelfOf_53 : decode cX7_shelfOf 53 = .ok (.isub, 1) := by decide +kernel
theorem dX7_shelfOf_54 : decode cX7_shelfOf 54 = .ok (.goto 4, 3) := by decide +kernel
theorem dX7_shelfOf_57 : decode cX7_shelfOf 57 = .ok (.iconst (-1), 1) := by decide +kernel
theorem dX7_shelfOf_58 : decode cX7_shelfOf 58 = .ok (.ireturn, 1) := by decide +kernel
theorem dX7_counts_0 : decode cX7_counts 0 = .ok (.iload_n 1, 1) := by decide +kernel
theorem dX7_counts_1 : decode cX7_counts 1 = .ok (.iconst 2, 1) := by decide +kernel
theorem dX7_counts_2 : decode cX7_counts 2 = .ok (.if_icmp .ne 12, 3) := by decide +kernel
theorem dX7_counts_5 : decode cX7_counts 5 = .ok (.aload_n 0, 1) := by decide +kernel
theorem dX7_counts_6 : decode cX7_counts 6 = .ok (.invokevirtual 160, 3) := by decide +kernel
theorem dX7_counts_9 : decode cX7_counts 9 = .ok (.aload_n 0, 1) := by decide +kernel
theorem dX7_counts_10 : decode cX7_counts 10 = .ok (.getfield 163, 3) := by decide +kernel
theorem dX7_counts_13 : decode cX7_counts 13 = .ok (.ireturn, 1) := by decide +kernel
theorem dX7_counts_14 : decode cX7_counts 14 = .ok (.aload_n 0, 1) := by decide +kernel
theorem dX7_counts_15 : decode cX7_counts 15 = .ok (.invokevirtual 157, 3) := by decide +kernel
theorem dX7_counts_18 : decode cX7_counts 18 = .ok (.iload_n 1, 1) := by decide +kernel
theorem dX7_counts_19 : decode cX7_counts 19 = .ok (.ifCond .ne 10, 3) := by decide +kernel
theorem dX7_counts_22 : decode cX7_counts 22 = .ok (.aload_n 0, 1) := by decide +kernel
theorem dX7_counts_23 : decode cX7_counts 23 = .ok (.getfield 151, 3) := by decide +kernel
theorem dX7_counts_26 : decode cX7_counts 26 = .ok (.goto 16, 3) := by decide +kernel
theorem dX7_counts_29 : decode cX7_counts 29 = .ok (.iload_n 1, 1) := by decide +kernel
theorem dX7_counts_30 : decode cX7_counts 30 = .ok (.iconst 1, 1) := by decide +kernel
theorem dX7_counts_31 : decode cX7_counts 31 = .ok (.if_icmp .ne 10, 3) := by decide +kernel
theorem dX7_counts_34 : decode cX7_counts 34 = .ok (.aload_n 0, 1) := by decide +kernel
theorem dX7_counts_35 : decode cX7_counts 35 = .ok (.getfield 154, 3) := by decide +kernel
theorem dX7_counts_38 : decode cX7_counts 38 = .ok (.goto 4, 3) := by decide +kernel
theorem dX7_counts_41 : decode cX7_counts 41 = .ok (.iconst (-1), 1) := by decide +kernel
theorem dX7_counts_42 : decode cX7_counts 42 = .ok (.ireturn, 1) := by decide +kernel
theorem dX7_pack_0 : decode cX7_pack 0 = .ok (.aload_n 0, 1) := by decide +kernel
theorem dX7_pack_1 : decode cX7_pack 1 = .ok (.aload_n 0, 1) := by decide +kernel
theorem dX7_pack_2 : decode cX7_pack 2 = .ok (.getfield 128, 3) := by decide +kernel
theorem dX7_pack_5 : decode cX7_pack 5 = .ok (.invokevirtual 145, 3) := by decide +kernel
theorem dX7_pack_8 : decode cX7_pack 8 = .ok (.aload_n 0, 1) := by decide +kernel
theorem dX7_pack_9 : decode cX7_pack 9 = .ok (.iconst 0, 1) := by decide +kernel
theorem dX7_pack_10 : decode cX7_pack 10 = .ok (.putfield 163, 3) := by decide +kernel
theorem dX7_pack_13 : decode cX7_pack 13 = .ok (.iconst 0, 1) := by decide +kernel
theorem dX7_pack_14 : decode cX7_pack 14 = .ok (.istore_n 1, 1) := by decide +kernel
theorem dX7_pack_15 : decode cX7_pack 15 = .ok (.iconst 0, 1) := by decide +kernel
theorem dX7_pack_16 : decode cX7_pack 16 = .ok (.istore_n 2, 1) := by decide +kernel
theorem dX7_pack_17 : decode cX7_pack 17 = .ok (.iload_n 2, 1) := by decide +kernel
theorem dX7_pack_18 : decode cX7_pack 18 = .ok (.aload_n 0, 1) := by decide +kernel
theorem dX7_pack_19 : decode cX7_pack 19 = .ok (.getfield 99, 3) := by decide +kernel
theorem dX7_pack_22 : decode cX7_pack 22 = .ok (.if_icmp .ge 141, 3) := by decide +kernel
theorem dX7_pack_25 : decode cX7_pack 25 = .ok (.aload_n 0, 1) := by decide +kernel
theorem dX7_pack_26 : decode cX7_pack 26 = .ok (.getfield 53, 3) := by decide +kernel
theorem dX7_pack_29 : decode cX7_pack 29 = .ok (.iload_n 2, 1) := by decide +kernel
theorem dX7_pack_30 : decode cX7_pack 30 = .ok (.iaload, 1) := by decide +kernel
theorem dX7_pack_31 : decode cX7_pack 31 = .ok (.istore_n 3, 1) := by decide +kernel
theorem dX7_pack_32 : decode cX7_pack 32 = .ok (.aload_n 0, 1) := by decide +kernel
theorem dX7_pack_33 : decode cX7_pack 33 = .ok (.getfield 163, 3) := by decide +kernel
theorem dX7_pack_36 : decode cX7_pack 36 = .ok (.ifCond .eq 38, 3) := by decide +kernel
theorem dX7_pack_39 : decode cX7_pack 39 = .ok (.iload_n 1, 1) := by decide +kernel
theorem dX7_pack_40 : decode cX7_pack 40 = .ok (.aload_n 0, 1) := by decide +kernel
theorem dX7_pack_41 : decode cX7_pack 41 = .ok (.getfield 32, 3) := by decide +kernel
theorem dX7_pack_44 : decode cX7_pack 44 = .ok (.iload_n 3, 1) := by decide +kernel
theorem dX7_pack_45 : decode cX7_pack 45 = .ok (.iaload, 1) := by decide +kernel
theorem dX7_pack_46 : decode cX7_pack 46 = .ok (.iadd, 1) := by decide +kernel
theorem dX7_pack_47 : decode cX7_pack 47 = .ok (.aload_n 0, 1) := by decide +kernel
theorem dX7_pack_48 : decode cX7_pack 48 = .ok (.getfield 13, 3) := by decide +kernel
theorem dX7_pack_51 : decode cX7_pack 51 = .ok (.if_icmp .gt 23, 3) := by decide +kernel
theorem dX7_pack_54 : decode cX7_pack 54 = .ok (.aload_n 0, 1) := by decide +kernel
theorem dX7_pack_55 : decode cX7_pack 55 = .ok (.getfield 74, 3) := by decide +kernel
theorem dX7_pack_58 : decode cX7_pack 58 = .ok (.aload_n 0, 1) := by decide +kernel
theorem dX7_pack_59 : decode cX7_pack 59 = .ok (.getfield 163, 3) := by decide +kernel
theorem dX7_pack_62 : decode cX7_pack 62 = .ok (.iconst 1, 1) := by decide +kernel
theorem dX7_pack_63 : decode cX7_pack 63 = .ok (.isub, 1) := by decide +kernel
theorem dX7_pack_64 : decode cX7_pack 64 = .ok (.iaload, 1) := by decide +kernel
theorem dX7_pack_65 : decode cX7_pack 65 = .ok (.aload_n 0, 1) := by decide +kernel
theorem dX7_pack_66 : decode cX7_pack 66 = .ok (.getfield 29, 3) := by decide +kernel
theorem dX7_pack_69 : decode cX7_pack 69 = .ok (.iload_n 3, 1) := by decide +kernel
theorem dX7_pack_70 : decode cX7_pack 70 = .ok (.iaload, 1) := by decide +kernel
theorem dX7_pack_71 : decode cX7_pack 71 = .ok (.if_icmp .eq 50, 3) := by decide +kernel
theorem dX7_pack_74 : decode cX7_pack 74 = .ok (.aload_n 0, 1) := by decide +kernel
theorem dX7_pack_75 : decode cX7_pack 75 = .ok (.getfield 68, 3) := by decide +kernel
theorem dX7_pack_78 : decode cX7_pack 78 = .ok (.aload_n 0, 1) := by decide +kernel
theorem dX7_pack_79 : decode cX7_pack 79 = .ok (.getfield 163, 3) := by decide +kernel
theorem dX7_pack_82 : decode cX7_pack 82 = .ok (.iload_n 3, 1) := by decide +kernel
theorem dX7_pack_83 : decode cX7_pack 83 = .ok (.iastore, 1) := by decide +kernel
theorem dX7_pack_84 : decode cX7_pack 84 = .ok (.aload_n 0, 1) := by decide +kernel
theorem dX7_pack_85 : decode cX7_pack 85 = .ok (.getfield 71, 3) := by decide +kernel
theorem dX7_pack_88 : decode cX7_pack 88 = .ok (.aload_n 0, 1) := by decide +kernel
theorem dX7_pack_89 : decode cX7_pack 89 = .ok (.getfield 163, 3) := by decide +kernel
theorem dX7_pack_92 : decode cX7_pack 92 = .ok (.iconst 0, 1) := by decide +kernel
theorem dX7_pack_93 : decode cX7_pack 93 = .ok (.iastore, 1) := by decide +kernel
theorem dX7_pack_94 : decode cX7_pack 94 = .ok (.aload_n 0, 1) := by decide +kernel
theorem dX7_pack_95 : decode cX7_pack 95 = .ok (.getfield 74, 3) := by decide +kernel
theorem dX7_pack_98 : decode cX7_pack 98 = .ok (.aload_n 0, 1) := by decide +kernel
theorem dX7_pack_99 : decode cX7_pack 99 = .ok (.getfield 163, 3) := by decide +kernel
theorem dX7_pack_102 : decode cX7_pack 102 = .ok (.aload_n 0, 1) := by decide +kernel
theorem dX7_pack_103 : decode cX7_pack 103 = .ok (.getfield 29, 3) := by decide +kernel
theorem dX7_pack_106 : decode cX7_pack 106 = .ok (.iload_n 3, 1) := by decide +kernel
theorem dX7_pack_107 : decode cX7_pack 107 = .ok (.iaload, 1) := by decide +kernel
theorem dX7_pack_108 : decode cX7_pack 108 = .ok (.iastore, 1) := by decide +kernel
theorem dX7_pack_109 : decode cX7_pack 109 = .ok (.aload_n 0, 1) := by decide +kernel
theorem dX7_pack_110 : decode cX7_pack 110 = .ok (.dup, 1) := by decide +kernel
theorem dX7_pack_111 : decode cX7_pack 111 = .ok (.getfield 163, 3) := by decide +kernel
theorem dX7_pack_114 : decode cX7_pack 114 = .ok (.iconst 1, 1) := by decide +kernel
theorem dX7_pack_115 : decode cX7_pack 115 = .ok (.iadd, 1) := by decide +kernel
theorem dX7_pack_116 : decode cX7_pack 116 = .ok (.putfield 163, 3) := by decide +kernel
theorem dX7_pack_119 : decode cX7_pack 119 = .ok (.iconst 0, 1) := by decide +kernel
theorem dX7_pack_120 : decode cX7_pack 120 = .ok (.istore_n 1, 1) := by decide +kernel
theorem dX7_pack_121 : decode cX7_pack 121 = .ok (.aload_n 0, 1) := by decide +kernel
theorem dX7_pack_122 : decode cX7_pack 122 = .ok (.getfield 83, 3) := by decide +kernel
theorem dX7_pack_125 : decode cX7_pack 125 = .ok (.iload_n 3, 1) := by decide +kernel
theorem dX7_pack_126 : decode cX7_pack 126 = .ok (.aload_n 0, 1) := by decide +kernel
theorem dX7_pack_127 : decode cX7_pack 127 = .ok (.getfield 163, 3) := by decide +kernel
theorem dX7_pack_130 : decode cX7_pack 130 = .ok (.iconst 1, 1) := by decide +kernel
theorem dX7_pack_131 : decode cX7_pack 131 = .ok (.isub, 1) := by decide +kernel
theorem dX7_pack_132 : decode cX7_pack 132 = .ok (.iastore, 1) := by decide +kernel
theorem dX7_pack_133 : decode cX7_pack 133 = .ok (.aload_n 0, 1) := by decide +kernel
theorem dX7_pack_134 : decode cX7_pack 134 = .ok (.getfield 71, 3) := by decide +kernel
theorem dX7_pack_137 : decode cX7_pack 137 = .ok (.aload_n 0, 1) := by decide +kernel
theorem dX7_pack_138 : decode cX7_pack 138 = .ok (.getfield 163, 3) := by decide +kernel
theorem dX7_pack_141 : decode cX7_pack 141 = .ok (.iconst 1, 1) := by decide +kernel
theorem dX7_pack_142 : decode cX7_pack 142 = .ok (.isub, 1) := by decide +kernel
theorem dX7_pack_143 : decode cX7_pack 143 = .ok (.dup2, 1) := by decide +kernel
theorem dX7_pack_144 : decode cX7_pack 144 = .ok (.iaload, 1) := by decide +kernel
theorem dX7_pack_145 : decode cX7_pack 145 = .ok (.iconst 1, 1) := by decide +kernel
theorem dX7_pack_146 : decode cX7_pack 146 = .ok (.iadd, 1) := by decide +kernel
theorem dX7_pack_147 : decode cX7_pack 147 = .ok (.iastore, 1) := by decide +kernel
theorem dX7_pack_148 : decode cX7_pack 148 = .ok (.iload_n 1, 1) := by decide +kernel
theorem dX7_pack_149 : decode cX7_pack 149 = .ok (.aload_n 0, 1) := by decide +kernel
theorem dX7_pack_150 : decode cX7_pack 150 = .ok (.getfield 32, 3) := by decide +kernel
theorem dX7_pack_153 : decode cX7_pack 153 = .ok (.iload_n 3, 1) := by decide +kernel
theorem dX7_pack_154 : decode cX7_pack 154 = .ok (.iaload, 1) := by decide +kernel
theorem dX7_pack_155 : decode cX7_pack 155 = .ok (.iadd, 1) := by decide +kernel
theorem dX7_pack_156 : decode cX7_pack 156 = .ok (.istore_n 1, 1) := by decide +kernel
theorem dX7_pack_157 : decode cX7_pack 157 = .ok (.iinc 2 1, 3) := by decide +kernel
theorem dX7_pack_160 : decode cX7_pack 160 = .ok (.goto (-143), 3) := by decide +kernel
theorem dX7_pack_163 : decode cX7_pack 163 = .ok (.aload_n 0, 1) := by decide +kernel
theorem dX7_pack_164 : decode cX7_pack 164 = .ok (.invokevirtual 166, 3) := by decide +kernel
theorem dX7_pack_167 : decode cX7_pack 167 = .ok (.return_, 1) := by decide +kernel
theorem dX7_meet_0 : decode cX7_meet 0 = .ok (.iconst 0, 1) := by decide +kernel
theorem dX7_meet_1 : decode cX7_meet 1 = .ok (.istore_n 1, 1) := by decide +kernel
theorem dX7_meet_2 : decode cX7_meet 2 = .ok (.iconst 0, 1) := by decide +kernel
theorem dX7_meet_3 : decode cX7_meet 3 = .ok (.istore_n 2, 1) := by decide +kernel
theorem dX7_meet_4 : decode cX7_meet 4 = .ok (.iload_n 2, 1) := by decide +kernel
theorem dX7_meet_5 : decode cX7_meet 5 = .ok (.aload_n 0, 1) := by decide +kernel
theorem dX7_meet_6 : decode cX7_meet 6 = .ok (.getfield 163, 3) := by decide +kernel
theorem dX7_meet_9 : decode cX7_meet 9 = .ok (.if_icmp .ge 23, 3) := by decide +kernel
theorem dX7_meet_12 : decode cX7_meet 12 = .ok (.iload_n 1, 1) := by decide +kernel
theorem dX7_meet_13 : decode cX7_meet 13 = .ok (.aload_n 0, 1) := by decide +kernel
theorem dX7_meet_14 : decode cX7_meet 14 = .ok (.getfield 44, 3) := by decide +kernel
theorem dX7_meet_17 : decode cX7_meet 17 = .ok (.aload_n 0, 1) := by decide +kernel
theorem dX7_meet_18 : decode cX7_meet 18 = .ok (.getfield 74, 3) := by decide +kernel
theorem dX7_meet_21 : decode cX7_meet 21 = .ok (.iload_n 2, 1) := by decide +kernel
theorem dX7_meet_22 : decode cX7_meet 22 = .ok (.iaload, 1) := by decide +kernel
theorem dX7_meet_23 : decode cX7_meet 23 = .ok (.iaload, 1) := by decide +kernel
theorem dX7_meet_24 : decode cX7_meet 24 = .ok (.iadd, 1) := by decide +kernel
theorem dX7_meet_25 : decode cX7_meet 25 = .ok (.istore_n 1, 1) := by decide +kernel
theorem dX7_meet_26 : decode cX7_meet 26 = .ok (.iinc 2 1, 3) := by decide +kernel
theorem dX7_meet_29 : decode cX7_meet 29 = .ok (.goto (-25), 3) := by decide +kernel
theorem dX7_meet_32 : decode cX7_meet 32 = .ok (.aload_n 0, 1) := by decide +kernel
theorem dX7_meet_33 : decode cX7_meet 33 = .ok (.iconst 0, 1) := by decide +kernel
theorem dX7_meet_34 : decode cX7_meet 34 = .ok (.putfield 169, 3) := by decide +kernel
theorem dX7_meet_37 : decode cX7_meet 37 = .ok (.aload_n 0, 1) := by decide +kernel
theorem dX7_meet_38 : decode cX7_meet 38 = .ok (.iload_n 1, 1) := by decide +kernel
theorem dX7_meet_39 : decode cX7_meet 39 = .ok (.putfield 172, 3) := by decide +kernel
theorem dX7_meet_42 : decode cX7_meet 42 = .ok (.iconst 0, 1) := by decide +kernel
theorem dX7_meet_43 : decode cX7_meet 43 = .ok (.istore_n 2, 1) := by decide +kernel
theorem dX7_meet_44 : decode cX7_meet 44 = .ok (.iconst 0, 1) := by decide +kernel
theorem dX7_meet_45 : decode cX7_meet 45 = .ok (.istore_n 3, 1) := by decide +kernel
theorem dX7_meet_46 : decode cX7_meet 46 = .ok (.iload_n 3, 1) := by decide +kernel
theorem dX7_meet_47 : decode cX7_meet 47 = .ok (.aload_n 0, 1) := by decide +kernel
theorem dX7_meet_48 : decode cX7_meet 48 = .ok (.getfield 163, 3) := by decide +kernel
theorem dX7_meet_51 : decode cX7_meet 51 = .ok (.if_icmp .ge 64, 3) := by decide +kernel
theorem dX7_meet_54 : decode cX7_meet 54 = .ok (.iload_n 2, 1) := by decide +kernel
theorem dX7_meet_55 : decode cX7_meet 55 = .ok (.aload_n 0, 1) := by decide +kernel
theorem dX7_meet_56 : decode cX7_meet 56 = .ok (.getfield 44, 3) := by decide +kernel
theorem dX7_meet_59 : decode cX7_meet 59 = .ok (.aload_n 0, 1) := by decide +kernel
theorem dX7_meet_60 : decode cX7_meet 60 = .ok (.getfield 74, 3) := by decide +kernel
theorem dX7_meet_63 : decode cX7_meet 63 = .ok (.iload_n 3, 1) := by decide +kernel
theorem dX7_meet_64 : decode cX7_meet 64 = .ok (.iaload, 1) := by decide +kernel
theorem dX7_meet_65 : decode cX7_meet 65 = .ok (.iaload, 1) := by decide +kernel
theorem dX7_meet_66 : decode cX7_meet 66 = .ok (.iadd, 1) := by decide +kernel
theorem dX7_meet_67 : decode cX7_meet 67 = .ok (.istore_n 2, 1) := by decide +kernel
theorem dX7_meet_68 : decode cX7_meet 68 = .ok (.iload_n 2, 1) := by decide +kernel
theorem dX7_meet_69 : decode cX7_meet 69 = .ok (.iload_n 1, 1) := by decide +kernel
theorem dX7_meet_70 : decode cX7_meet 70 = .ok (.iload_n 2, 1) := by decide +kernel
theorem dX7_meet_71 : decode cX7_meet 71 = .ok (.isub, 1) := by decide +kernel
theorem dX7_meet_72 : decode cX7_meet 72 = .ok (.if_icmp .le 7, 3) := by decide +kernel
theorem dX7_meet_75 : decode cX7_meet 75 = .ok (.iload_n 2, 1) := by decide +kernel
theorem dX7_meet_76 : decode cX7_meet 76 = .ok (.goto 6, 3) := by decide +kernel
theorem dX7_meet_79 : decode cX7_meet 79 = .ok (.iload_n 1, 1) := by decide +kernel
theorem dX7_meet_80 : decode cX7_meet 80 = .ok (.iload_n 2, 1) := by decide +kernel
theorem dX7_meet_81 : decode cX7_meet 81 = .ok (.isub, 1) := by decide +kernel
theorem dX7_meet_82 : decode cX7_meet 82 = .ok (.istore 4, 2) := by decide +kernel
theorem dX7_meet_84 : decode cX7_meet 84 = .ok (.iload 4, 2) := by decide +kernel
theorem dX7_meet_86 : decode cX7_meet 86 = .ok (.aload_n 0, 1) := by decide +kernel
theorem dX7_meet_87 : decode cX7_meet 87 = .ok (.getfield 172, 3) := by decide +kernel
theorem dX7_meet_90 : decode cX7_meet 90 = .ok (.if_icmp .lt 6, 3) := by decide +kernel
theorem dX7_meet_93 : decode cX7_meet 93 = .ok (.goto 16, 3) := by decide +kernel
theorem dX7_meet_96 : decode cX7_meet 96 = .ok (.aload_n 0, 1) := by decide +kernel
theorem dX7_meet_97 : decode cX7_meet 97 = .ok (.iload_n 3, 1) := by decide +kernel
theorem dX7_meet_98 : decode cX7_meet 98 = .ok (.iconst 1, 1) := by decide +kernel
theorem dX7_meet_99 : decode cX7_meet 99 = .ok (.iadd, 1) := by decide +kernel
theorem dX7_meet_100 : decode cX7_meet 100 = .ok (.putfield 169, 3) := by decide +kernel
theorem dX7_meet_103 : decode cX7_meet 103 = .ok (.aload_n 0, 1) := by decide +kernel
theorem dX7_meet_104 : decode cX7_meet 104 = .ok (.iload 4, 2) := by decide +kernel
theorem dX7_meet_106 : decode cX7_meet 106 = .ok (.putfield 172, 3) := by decide +kernel
theorem dX7_meet_109 : decode cX7_meet 109 = .ok (.iinc 3 1, 3) := by decide +kernel
theorem dX7_meet_112 : decode cX7_meet 112 = .ok (.goto (-66), 3) := by decide +kernel
theorem dX7_meet_115 : decode cX7_meet 115 = .ok (.iconst 0, 1) := by decide +kernel
theorem dX7_meet_116 : decode cX7_meet 116 = .ok (.istore_n 3, 1) := by decide +kernel
theorem dX7_meet_117 : decode cX7_meet 117 = .ok (.iconst 0, 1) := by decide +kernel
theorem dX7_meet_118 : decode cX7_meet 118 = .ok (.istore 4, 2) := by decide +kernel
theorem dX7_meet_120 : decode cX7_meet 120 = .ok (.iload 4, 2) := by decide +kernel
theorem dX7_meet_122 : decode cX7_meet 122 = .ok (.aload_n 0, 1) := by decide +kernel
theorem dX7_meet_123 : decode cX7_meet 123 = .ok (.getfield 169, 3) := by decide +kernel
theorem dX7_meet_126 : decode cX7_meet 126 = .ok (.if_icmp .ge 40, 3) := by decide +kernel
theorem dX7_meet_129 : decode cX7_meet 129 = .ok (.aload_n 0, 1) := by decide +kernel
theorem dX7_meet_130 : decode cX7_meet 130 = .ok (.getfield 77, 3) := by decide +kernel
theorem dX7_meet_133 : decode cX7_meet 133 = .ok (.iload 4, 2) := by decide +kernel
theorem dX7_meet_135 : decode cX7_meet 135 = .ok (.iload_n 3, 1) := by decide +kernel
theorem dX7_meet_136 : decode cX7_meet 136 = .ok (.iastore, 1) := by decide +kernel
theorem dX7_meet_137 : decode cX7_meet 137 = .ok (.iload_n 3, 1) := by decide +kernel
theorem dX7_meet_138 : decode cX7_meet 138 = .ok (.aload_n 0, 1) := by decide +kernel
theorem dX7_meet_139 : decode cX7_meet 139 = .ok (.getfield 44, 3) := by decide +kernel
theorem dX7_meet_142 : decode cX7_meet 142 = .ok (.aload_n 0, 1) := by decide +kernel
theorem dX7_meet_143 : decode cX7_meet 143 = .ok (.getfield 74, 3) := by decide +kernel
theorem dX7_meet_146 : decode cX7_meet 146 = .ok (.iload 4, 2) := by decide +kernel
theorem dX7_meet_148 : decode cX7_meet 148 = .ok (.iaload, 1) := by decide +kernel
theorem dX7_meet_149 : decode cX7_meet 149 = .ok (.iaload, 1) := by decide +kernel
theorem dX7_meet_150 : decode cX7_meet 150 = .ok (.iadd, 1) := by decide +kernel
theorem dX7_meet_151 : decode cX7_meet 151 = .ok (.istore_n 3, 1) := by decide +kernel
theorem dX7_meet_152 : decode cX7_meet 152 = .ok (.aload_n 0, 1) := by decide +kernel
theorem dX7_meet_153 : decode cX7_meet 153 = .ok (.getfield 80, 3) := by decide +kernel
theorem dX7_meet_156 : decode cX7_meet 156 = .ok (.iload 4, 2) := by decide +kernel
theorem dX7_meet_158 : decode cX7_meet 158 = .ok (.iload_n 3, 1) := by decide +kernel
theorem dX7_meet_159 : decode cX7_meet 159 = .ok (.iastore, 1) := by decide +kernel
theorem dX7_meet_160 : decode cX7_meet 160 = .ok (.iinc 4 1, 3) := by decide +kernel
theorem dX7_meet_163 : decode cX7_meet 163 = .ok (.goto (-43), 3) := by decide +kernel
theorem dX7_meet_166 : decode cX7_meet 166 = .ok (.iconst 0, 1) := by decide +kernel
theorem dX7_meet_167 : decode cX7_meet 167 = .ok (.istore_n 3, 1) := by decide +kernel
theorem dX7_meet_168 : decode cX7_meet 168 = .ok (.aload_n 0, 1) := by decide +kernel
theorem dX7_meet_169 : decode cX7_meet 169 = .ok (.getfield 163, 3) := by decide +kernel
theorem dX7_meet_172 : decode cX7_meet 172 = .ok (.iconst 1, 1) := by decide +kernel
theorem dX7_meet_173 : decode cX7_meet 173 = .ok (.isub, 1) := by decide +kernel
theorem dX7_meet_174 : decode cX7_meet 174 = .ok (.istore 4, 2) := by decide +kernel
theorem dX7_meet_176 : decode cX7_meet 176 = .ok (.iload 4, 2) := by decide +kernel
theorem dX7_meet_178 : decode cX7_meet 178 = .ok (.aload_n 0, 1) := by decide +kernel
theorem dX7_meet_179 : decode cX7_meet 179 = .ok (.getfield 169, 3) := by decide +kernel
theorem dX7_meet_182 : decode cX7_meet 182 = .ok (.if_icmp .lt 40, 3) := by decide +kernel
theorem dX7_meet_185 : decode cX7_meet 185 = .ok (.aload_n 0, 1) := by decide +kernel
theorem dX7_meet_186 : decode cX7_meet 186 = .ok (.getfield 77, 3) := by decide +kernel
theorem dX7_meet_189 : decode cX7_meet 189 = .ok (.iload 4, 2) := by decide +kernel
theorem dX7_meet_191 : decode cX7_meet 191 = .ok (.iload_n 3, 1) := by decide +kernel
theorem dX7_meet_192 : decode cX7_meet 192 = .ok (.iastore, 1) := by decide +kernel
theorem dX7_meet_193 : decode cX7_meet 193 = .ok (.iload_n 3, 1) := by decide +kernel
theorem dX7_meet_194 : decode cX7_meet 194 = .ok (.aload_n 0, 1) := by decide +kernel
theorem dX7_meet_195 : decode cX7_meet 195 = .ok (.getfield 44, 3) := by decide +kernel
theorem dX7_meet_198 : decode cX7_meet 198 = .ok (.aload_n 0, 1) := by decide +kernel
theorem dX7_meet_199 : decode cX7_meet 199 = .ok (.getfield 74, 3) := by decide +kernel
theorem dX7_meet_202 : decode cX7_meet 202 = .ok (.iload 4, 2) := by decide +kernel
theorem dX7_meet_204 : decode cX7_meet 204 = .ok (.iaload, 1) := by decide +kernel
theorem dX7_meet_205 : decode cX7_meet 205 = .ok (.iaload, 1) := by decide +kernel
theorem dX7_meet_206 : decode cX7_meet 206 = .ok (.iadd, 1) := by decide +kernel
theorem dX7_meet_207 : decode cX7_meet 207 = .ok (.istore_n 3, 1) := by decide +kernel
theorem dX7_meet_208 : decode cX7_meet 208 = .ok (.aload_n 0, 1) := by decide +kernel
theorem dX7_meet_209 : decode cX7_meet 209 = .ok (.getfield 80, 3) := by decide +kernel
theorem dX7_meet_212 : decode cX7_meet 212 = .ok (.iload 4, 2) := by decide +kernel
theorem dX7_meet_214 : decode cX7_meet 214 = .ok (.iload_n 3, 1) := by decide +kernel
theorem dX7_meet_215 : decode cX7_meet 215 = .ok (.iastore, 1) := by decide +kernel
theorem dX7_meet_216 : decode cX7_meet 216 = .ok (.iinc 4 (-1), 3) := by decide +kernel
theorem dX7_meet_219 : decode cX7_meet 219 = .ok (.goto (-43), 3) := by decide +kernel
theorem dX7_meet_222 : decode cX7_meet 222 = .ok (.return_, 1) := by decide +kernel
theorem dX7_way_0 : decode cX7_way 0 = .ok (.iload_n 1, 1) := by decide +kernel
theorem dX7_way_1 : decode cX7_way 1 = .ok (.iconst 0, 1) := by decide +kernel
theorem dX7_way_2 : decode cX7_way 2 = .ok (.iconst 4, 1) := by decide +kernel
theorem dX7_way_3 : decode cX7_way 3 = .ok (.invokestatic 102, 3) := by decide +kernel
theorem dX7_way_6 : decode cX7_way 6 = .ok (.ifCond .eq 13, 3) := by decide +kernel
theorem dX7_way_9 : decode cX7_way 9 = .ok (.iload_n 2, 1) := by decide +kernel
theorem dX7_way_10 : decode cX7_way 10 = .ok (.iconst 1, 1) := by decide +kernel
theorem dX7_way_11 : decode cX7_way 11 = .ok (.bipush 100, 2) := by decide +kernel
theorem dX7_way_13 : decode cX7_way 13 = .ok (.invokestatic 102, 3) := by decide +kernel
theorem dX7_way_16 : decode cX7_way 16 = .ok (.ifCond .ne 5, 3) := by decide +kernel
theorem dX7_way_19 : decode cX7_way 19 = .ok (.iconst 0, 1) := by decide +kernel
theorem dX7_way_20 : decode cX7_way 20 = .ok (.ireturn, 1) := by decide +kernel
theorem dX7_way_21 : decode cX7_way 21 = .ok (.aload_n 0, 1) := by decide +kernel
theorem dX7_way_22 : decode cX7_way 22 = .ok (.getfield 44, 3) := by decide +kernel
theorem dX7_way_25 : decode cX7_way 25 = .ok (.iload_n 1, 1) := by decide +kernel
theorem dX7_way_26 : decode cX7_way 26 = .ok (.iload_n 2, 1) := by decide +kernel
theorem dX7_way_27 : decode cX7_way 27 = .ok (.iastore, 1) := by decide +kernel
theorem dX7_way_28 : decode cX7_way 28 = .ok (.iconst 1, 1) := by decide +kernel
theorem dX7_way_29 : decode cX7_way 29 = .ok (.ireturn, 1) := by decide +kernel
theorem dX7_crate_0 : decode cX7_crate 0 = .ok (.aload_n 0, 1) := by decide +kernel
theorem dX7_crate_1 : decode cX7_crate 1 = .ok (.invokevirtual 160, 3) := by decide +kernel
theorem dX7_crate_4 : decode cX7_crate 4 = .ok (.iload_n 1, 1) := by decide +kernel
theorem dX7_crate_5 : decode cX7_crate 5 = .ok (.iconst 0, 1) := by decide +kernel
theorem dX7_crate_6 : decode cX7_crate 6 = .ok (.aload_n 0, 1) := by decide +kernel
theorem dX7_crate_7 : decode cX7_crate 7 = .ok (.getfield 163, 3) := by decide +kernel
theorem dX7_crate_10 : decode cX7_crate 10 = .ok (.iconst 1, 1) := by decide +kernel
theorem dX7_crate_11 : decode cX7_crate 11 = .ok (.isub, 1) := by decide +kernel
theorem dX7_crate_12 : decode cX7_crate 12 = .ok (.invokestatic 102, 3) := by decide +kernel
theorem dX7_crate_15 : decode cX7_crate 15 = .ok (.ifCond .ne 5, 3) := by decide +kernel
theorem dX7_crate_18 : decode cX7_crate 18 = .ok (.iconst (-1), 1) := by decide +kernel
theorem dX7_crate_19 : decode cX7_crate 19 = .ok (.ireturn, 1) := by decide +kernel
theorem dX7_crate_20 : decode cX7_crate 20 = .ok (.iload_n 2, 1) := by decide +kernel
theorem dX7_crate_21 : decode cX7_crate 21 = .ok (.tableswitch 88 0 5 #[39, 46, 53, 60, 67, 74], 39) := by decide +kernel
theorem dX7_crate_60 : decode cX7_crate 60 = .ok (.aload_n 0, 1) := by decide +kernel
theorem dX7_crate_61 : decode cX7_crate 61 = .ok (.getfield 68, 3) := by decide +kernel
theorem dX7_crate_64 : decode cX7_crate 64 = .ok (.iload_n 1, 1) := by decide +kernel
theorem dX7_crate_65 : decode cX7_crate 65 = .ok (.iaload, 1) := by decide +kernel
theorem dX7_crate_66 : decode cX7_crate 66 = .ok (.ireturn, 1) := by decide +kernel
theorem dX7_crate_67 : decode cX7_crate 67 = .ok (.aload_n 0, 1) := by decide +kernel
theorem dX7_crate_68 : decode cX7_crate 68 = .ok (.getfield 71, 3) := by decide +kernel
theorem dX7_crate_71 : decode cX7_crate 71 = .ok (.iload_n 1, 1) := by decide +kernel
theorem dX7_crate_72 : decode cX7_crate 72 = .ok (.iaload, 1) := by decide +kernel
theorem dX7_crate_73 : decode cX7_crate 73 = .ok (.ireturn, 1) := by decide +kernel
theorem dX7_crate_74 : decode cX7_crate 74 = .ok (.aload_n 0, 1) := by decide +kernel
theorem dX7_crate_75 : decode cX7_crate 75 = .ok (.getfield 74, 3) := by decide +kernel
theorem dX7_crate_78 : decode cX7_crate 78 = .ok (.iload_n 1, 1) := by decide +kernel
theorem dX7_crate_79 : decode cX7_crate 79 = .ok (.iaload, 1) := by decide +kernel
theorem dX7_crate_80 : decode cX7_crate 80 = .ok (.ireturn, 1) := by decide +kernel
theorem dX7_crate_81 : decode cX7_crate 81 = .ok (.aload_n 0, 1) := by decide +kernel
theorem dX7_crate_82 : decode cX7_crate 82 = .ok (.getfield 77, 3) := by decide +kernel
theorem dX7_crate_85 : decode cX7_crate 85 = .ok (.iload_n 1, 1) := by decide +kernel
theorem dX7_crate_86 : decode cX7_crate 86 = .ok (.iaload, 1) := by decide +kernel
theorem dX7_crate_87 : decode cX7_crate 87 = .ok (.ireturn, 1) := by decide +kernel
theorem dX7_crate_88 : decode cX7_crate 88 = .ok (.aload_n 0, 1) := by decide +kernel
theorem dX7_crate_89 : decode cX7_crate 89 = .ok (.getfield 80, 3) := by decide +kernel
theorem dX7_crate_92 : decode cX7_crate 92 = .ok (.iload_n 1, 1) := by decide +kernel
theorem dX7_crate_93 : decode cX7_crate 93 = .ok (.iaload, 1) := by decide +kernel
theorem dX7_crate_94 : decode cX7_crate 94 = .ok (.ireturn, 1) := by decide +kernel
theorem dX7_crate_95 : decode cX7_crate 95 = .ok (.iload_n 1, 1) := by decide +kernel
theorem dX7_crate_96 : decode cX7_crate 96 = .ok (.aload_n 0, 1) := by decide +kernel
theorem dX7_crate_97 : decode cX7_crate 97 = .ok (.getfield 169, 3) := by decide +kernel
theorem dX7_crate_100 : decode cX7_crate 100 = .ok (.if_icmp .ge 7, 3) := by decide +kernel
theorem dX7_crate_103 : decode cX7_crate 103 = .ok (.iconst 0, 1) := by decide +kernel
theorem dX7_crate_104 : decode cX7_crate 104 = .ok (.goto 4, 3) := by decide +kernel
theorem dX7_crate_107 : decode cX7_crate 107 = .ok (.iconst 1, 1) := by decide +kernel
theorem dX7_crate_108 : decode cX7_crate 108 = .ok (.ireturn, 1) := by decide +kernel
theorem dX7_crate_109 : decode cX7_crate 109 = .ok (.iconst (-1), 1) := by decide +kernel
theorem dX7_crate_110 : decode cX7_crate 110 = .ok (.ireturn, 1) := by decide +kernel
theorem dX7_meeting_0 : decode cX7_meeting 0 = .ok (.aload_n 0, 1) := by decide +kernel
theorem dX7_meeting_1 : decode cX7_meeting 1 = .ok (.invokevirtual 160, 3) := by decide +kernel
theorem dX7_meeting_4 : decode cX7_meeting 4 = .ok (.iload_n 1, 1) := by decide +kernel
theorem dX7_meeting_5 : decode cX7_meeting 5 = .ok (.ifCond .ne 10, 3) := by decide +kernel
theorem dX7_meeting_8 : decode cX7_meeting 8 = .ok (.aload_n 0, 1) := by decide +kernel
theorem dX7_meeting_9 : decode cX7_meeting 9 = .ok (.getfield 169, 3) := by decide +kernel
theorem dX7_meeting_12 : decode cX7_meeting 12 = .ok (.goto 16, 3) := by decide +kernel
theorem dX7_meeting_15 : decode cX7_meeting 15 = .ok (.iload_n 1, 1) := by decide +kernel
theorem dX7_meeting_16 : decode cX7_meeting 16 = .ok (.iconst 1, 1) := by decide +kernel
theorem dX7_meeting_17 : decode cX7_meeting 17 = .ok (.if_icmp .ne 10, 3) := by decide +kernel
theorem dX7_meeting_20 : decode cX7_meeting 20 = .ok (.aload_n 0, 1) := by decide +kernel
theorem dX7_meeting_21 : decode cX7_meeting 21 = .ok (.getfield 172, 3) := by decide +kernel
theorem dX7_meeting_24 : decode cX7_meeting 24 = .ok (.goto 4, 3) := by decide +kernel
theorem dX7_meeting_27 : decode cX7_meeting 27 = .ok (.iconst (-1), 1) := by decide +kernel
theorem dX7_meeting_28 : decode cX7_meeting 28 = .ok (.ireturn, 1) := by decide +kernel
theorem dX7_where_0 : decode cX7_where 0 = .ok (.aload_n 0, 1) := by decide +kernel
theorem dX7_where_1 : decode cX7_where 1 = .ok (.iload_n 1, 1) := by decide +kernel
theorem dX7_where_2 : decode cX7_where 2 = .ok (.invokevirtual 138, 3) := by decide +kernel
theorem dX7_where_5 : decode cX7_where 5 = .ok (.ifCond .eq 13, 3) := by decide +kernel
theorem dX7_where_8 : decode cX7_where 8 = .ok (.iload_n 2, 1) := by decide +kernel
theorem dX7_where_9 : decode cX7_where 9 = .ok (.iconst 0, 1) := by decide +kernel
theorem dX7_where_10 : decode cX7_where 10 = .ok (.ldc 175, 2) := by decide +kernel
theorem dX7_where_12 : decode cX7_where 12 = .ok (.invokestatic 102, 3) := by decide +kernel
theorem dX7_where_15 : decode cX7_where 15 = .ok (.ifCond .ne 5, 3) := by decide +kernel
theorem dX7_where_18 : decode cX7_where 18 = .ok (.iconst (-1), 1) := by decide +kernel
theorem dX7_where_19 : decode cX7_where 19 = .ok (.ireturn, 1) := by decide +kernel
theorem dX7_where_20 : decode cX7_where 20 = .ok (.aload_n 0, 1) := by decide +kernel
theorem dX7_where_21 : decode cX7_where 21 = .ok (.invokevirtual 160, 3) := by decide +kernel
theorem dX7_where_24 : decode cX7_where 24 = .ok (.aload_n 0, 1) := by decide +kernel
theorem dX7_where_25 : decode cX7_where 25 = .ok (.getfield 83, 3) := by decide +kernel
theorem dX7_where_28 : decode cX7_where 28 = .ok (.iload_n 1, 1) := by decide +kernel
theorem dX7_where_29 : decode cX7_where 29 = .ok (.iaload, 1) := by decide +kernel
theorem dX7_where_30 : decode cX7_where 30 = .ok (.istore 4, 2) := by decide +kernel
theorem dX7_where_32 : decode cX7_where 32 = .ok (.iload_n 2, 1) := by decide +kernel
theorem dX7_where_33 : decode cX7_where 33 = .ok (.aload_n 0, 1) := by decide +kernel
theorem dX7_where_34 : decode cX7_where 34 = .ok (.getfield 80, 3) := by decide +kernel
theorem dX7_where_37 : decode cX7_where 37 = .ok (.iload 4, 2) := by decide +kernel
theorem dX7_where_39 : decode cX7_where 39 = .ok (.iaload, 1) := by decide +kernel
theorem dX7_where_40 : decode cX7_where 40 = .ok (.if_icmp .lt 7, 3) := by decide +kernel
theorem dX7_where_43 : decode cX7_where 43 = .ok (.iconst 2, 1) := by decide +kernel
theorem dX7_where_44 : decode cX7_where 44 = .ok (.goto 19, 3) := by decide +kernel
theorem dX7_where_47 : decode cX7_where 47 = .ok (.iload_n 2, 1) := by decide +kernel
theorem dX7_where_48 : decode cX7_where 48 = .ok (.aload_n 0, 1) := by decide +kernel
theorem dX7_where_49 : decode cX7_where 49 = .ok (.getfield 77, 3) := by decide +kernel
theorem dX7_where_52 : decode cX7_where 52 = .ok (.iload 4, 2) := by decide +kernel
theorem dX7_where_54 : decode cX7_where 54 = .ok (.iaload, 1) := by decide +kernel
theorem dX7_where_55 : decode cX7_where 55 = .ok (.if_icmp .lt 7, 3) := by decide +kernel
theorem dX7_where_58 : decode cX7_where 58 = .ok (.iconst 1, 1) := by decide +kernel
theorem dX7_where_59 : decode cX7_where 59 = .ok (.goto 4, 3) := by decide +kernel
theorem dX7_where_62 : decode cX7_where 62 = .ok (.iconst 0, 1) := by decide +kernel
theorem dX7_where_63 : decode cX7_where 63 = .ok (.istore 5, 2) := by decide +kernel
theorem dX7_where_65 : decode cX7_where 65 = .ok (.iload_n 3, 1) := by decide +kernel
theorem dX7_where_66 : decode cX7_where 66 = .ok (.ifCond .ne 6, 3) := by decide +kernel
theorem dX7_where_69 : decode cX7_where 69 = .ok (.iload 5, 2) := by decide +kernel
theorem dX7_where_71 : decode cX7_where 71 = .ok (.ireturn, 1) := by decide +kernel
theorem dX7_where_72 : decode cX7_where 72 = .ok (.iload_n 3, 1) := by decide +kernel
theorem dX7_where_73 : decode cX7_where 73 = .ok (.iconst 2, 1) := by decide +kernel
theorem dX7_where_74 : decode cX7_where 74 = .ok (.if_icmp .ne 6, 3) := by decide +kernel
theorem dX7_where_77 : decode cX7_where 77 = .ok (.iload 4, 2) := by decide +kernel
theorem dX7_where_79 : decode cX7_where 79 = .ok (.ireturn, 1) := by decide +kernel
theorem dX7_where_80 : decode cX7_where 80 = .ok (.iload_n 3, 1) := by decide +kernel
theorem dX7_where_81 : decode cX7_where 81 = .ok (.iconst 1, 1) := by decide +kernel
theorem dX7_where_82 : decode cX7_where 82 = .ok (.if_icmp .eq 5, 3) := by decide +kernel
theorem dX7_where_85 : decode cX7_where 85 = .ok (.iconst (-1), 1) := by decide +kernel
theorem dX7_where_86 : decode cX7_where 86 = .ok (.ireturn, 1) := by decide +kernel
theorem dX7_where_87 : decode cX7_where 87 = .ok (.iload_n 2, 1) := by decide +kernel
theorem dX7_where_88 : decode cX7_where 88 = .ok (.aload_n 0, 1) := by decide +kernel
theorem dX7_where_89 : decode cX7_where 89 = .ok (.getfield 44, 3) := by decide +kernel
theorem dX7_where_92 : decode cX7_where 92 = .ok (.aload_n 0, 1) := by decide +kernel
theorem dX7_where_93 : decode cX7_where 93 = .ok (.getfield 29, 3) := by decide +kernel
theorem dX7_where_96 : decode cX7_where 96 = .ok (.iload_n 1, 1) := by decide +kernel
theorem dX7_where_97 : decode cX7_where 97 = .ok (.iaload, 1) := by decide +kernel
theorem dX7_where_98 : decode cX7_where 98 = .ok (.iaload, 1) := by decide +kernel
theorem dX7_where_99 : decode cX7_where 99 = .ok (.iadd, 1) := by decide +kernel
theorem dX7_where_100 : decode cX7_where 100 = .ok (.istore 6, 2) := by decide +kernel
theorem dX7_where_102 : decode cX7_where 102 = .ok (.iload 5, 2) := by decide +kernel
theorem dX7_where_104 : decode cX7_where 104 = .ok (.iconst 2, 1) := by decide +kernel
theorem dX7_where_105 : decode cX7_where 105 = .ok (.if_icmp .ne 7, 3) := by decide +kernel
theorem dX7_where_108 : decode cX7_where 108 = .ok (.iload_n 2, 1) := by decide +kernel
theorem dX7_where_109 : decode cX7_where 109 = .ok (.goto 32, 3) := by decide +kernel
theorem dX7_where_112 : decode cX7_where 112 = .ok (.iload 5, 2) := by decide +kernel
theorem dX7_where_114 : decode cX7_where 114 = .ok (.ifCond .ne 20, 3) := by decide +kernel
theorem dX7_where_117 : decode cX7_where 117 = .ok (.iload 6, 2) := by decide +kernel
theorem dX7_where_119 : decode cX7_where 119 = .ok (.aload_n 0, 1) := by decide +kernel
theorem dX7_where_120 : decode cX7_where 120 = .ok (.getfield 77, 3) := by decide +kernel
theorem dX7_where_123 : decode cX7_where 123 = .ok (.iload 4, 2) := by decide +kernel
theorem dX7_where_125 : decode cX7_where 125 = .ok (.iaload, 1) := by decide +kernel
theorem dX7_where_126 : decode cX7_where 126 = .ok (.if_icmp .gt 8, 3) := by decide +kernel
theorem dX7_where_129 : decode cX7_where 129 = .ok (.iload 6, 2) := by decide +kernel
theorem dX7_where_131 : decode cX7_where 131 = .ok (.goto 10, 3) := by decide +kernel
theorem dX7_where_134 : decode cX7_where 134 = .ok (.aload_n 0, 1) := by decide +kernel
theorem dX7_where_135 : decode cX7_where 135 = .ok (.getfield 80, 3) := by decide +kernel
theorem dX7_where_138 : decode cX7_where 138 = .ok (.iload 4, 2) := by decide +kernel
theorem dX7_where_140 : decode cX7_where 140 = .ok (.iaload, 1) := by decide +kernel
theorem dX7_where_141 : decode cX7_where 141 = .ok (.ireturn, 1) := by decide +kernel
theorem dX7_row_0 : decode cX7_row 0 = .ok (.aload_n 0, 1) := by decide +kernel
theorem dX7_row_1 : decode cX7_row 1 = .ok (.invokevirtual 157, 3) := by decide +kernel
theorem dX7_row_4 : decode cX7_row 4 = .ok (.aload_n 0, 1) := by decide +kernel
theorem dX7_row_5 : decode cX7_row 5 = .ok (.iconst 0, 1) := by decide +kernel
theorem dX7_row_6 : decode cX7_row 6 = .ok (.putfield 176, 3) := by decide +kernel
theorem dX7_row_9 : decode cX7_row 9 = .ok (.iconst 0, 1) := by decide +kernel
theorem dX7_row_10 : decode cX7_row 10 = .ok (.istore_n 1, 1) := by decide +kernel
theorem dX7_row_11 : decode cX7_row 11 = .ok (.iload_n 1, 1) := by decide +kernel
theorem dX7_row_12 : decode cX7_row 12 = .ok (.aload_n 0, 1) := by decide +kernel
theorem dX7_row_13 : decode cX7_row 13 = .ok (.getfield 99, 3) := by decide +kernel
theorem dX7_row_16 : decode cX7_row 16 = .ok (.if_icmp .ge 51, 3) := by decide +kernel
theorem dX7_row_19 : decode cX7_row 19 = .ok (.aload_n 0, 1) := by decide +kernel
theorem dX7_row_20 : decode cX7_row 20 = .ok (.getfield 56, 3) := by decide +kernel
theorem dX7_row_23 : decode cX7_row 23 = .ok (.aload_n 0, 1) := by decide +kernel
theorem dX7_row_24 : decode cX7_row 24 = .ok (.getfield 53, 3) := by decide +kernel
theorem dX7_row_27 : decode cX7_row 27 = .ok (.iload_n 1, 1) := by decide +kernel
theorem dX7_row_28 : decode cX7_row 28 = .ok (.iaload, 1) := by decide +kernel
theorem dX7_row_29 : decode cX7_row 29 = .ok (.iaload, 1) := by decide +kernel
theorem dX7_row_30 : decode cX7_row 30 = .ok (.ifCond .ge 6, 3) := by decide +kernel
theorem dX7_row_33 : decode cX7_row 33 = .ok (.goto 28, 3) := by decide +kernel
theorem dX7_row_36 : decode cX7_row 36 = .ok (.aload_n 0, 1) := by decide +kernel
theorem dX7_row_37 : decode cX7_row 37 = .ok (.getfield 86, 3) := by decide +kernel
theorem dX7_row_40 : decode cX7_row 40 = .ok (.aload_n 0, 1) := by decide +kernel
theorem dX7_row_41 : decode cX7_row 41 = .ok (.getfield 176, 3) := by decide +kernel
theorem dX7_row_44 : decode cX7_row 44 = .ok (.aload_n 0, 1) := by decide +kernel
theorem dX7_row_45 : decode cX7_row 45 = .ok (.getfield 53, 3) := by decide +kernel
theorem dX7_row_48 : decode cX7_row 48 = .ok (.iload_n 1, 1) := by decide +kernel
theorem dX7_row_49 : decode cX7_row 49 = .ok (.iaload, 1) := by decide +kernel
theorem dX7_row_50 : decode cX7_row 50 = .ok (.iastore, 1) := by decide +kernel
theorem dX7_row_51 : decode cX7_row 51 = .ok (.aload_n 0, 1) := by decide +kernel
theorem dX7_row_52 : decode cX7_row 52 = .ok (.dup, 1) := by decide +kernel
theorem dX7_row_53 : decode cX7_row 53 = .ok (.getfield 176, 3) := by decide +kernel
theorem dX7_row_56 : decode cX7_row 56 = .ok (.iconst 1, 1) := by decide +kernel
theorem dX7_row_57 : decode cX7_row 57 = .ok (.iadd, 1) := by decide +kernel
theorem dX7_row_58 : decode cX7_row 58 = .ok (.putfield 176, 3) := by decide +kernel
theorem dX7_row_61 : decode cX7_row 61 = .ok (.iinc 1 1, 3) := by decide +kernel
theorem dX7_row_64 : decode cX7_row 64 = .ok (.goto (-53), 3) := by decide +kernel
theorem dX7_row_67 : decode cX7_row 67 = .ok (.aload_n 0, 1) := by decide +kernel
theorem dX7_row_68 : decode cX7_row 68 = .ok (.getfield 176, 3) := by decide +kernel
theorem dX7_row_71 : decode cX7_row 71 = .ok (.ireturn, 1) := by decide +kernel
theorem dX7_at_0 : decode cX7_at 0 = .ok (.iload_n 1, 1) := by decide +kernel
theorem dX7_at_1 : decode cX7_at 1 = .ok (.iconst 0, 1) := by decide +kernel
theorem dX7_at_2 : decode cX7_at 2 = .ok (.aload_n 0, 1) := by decide +kernel
theorem dX7_at_3 : decode cX7_at 3 = .ok (.getfield 176, 3) := by decide +kernel
theorem dX7_at_6 : decode cX7_at 6 = .ok (.iconst 1, 1) := by decide +kernel
theorem dX7_at_7 : decode cX7_at 7 = .ok (.isub, 1) := by decide +kernel
theorem dX7_at_8 : decode cX7_at 8 = .ok (.invokestatic 102, 3) := by decide +kernel
theorem dX7_at_11 : decode cX7_at 11 = .ok (.ifCond .eq 12, 3) := by decide +kernel
theorem dX7_at_14 : decode cX7_at 14 = .ok (.aload_n 0, 1) := by decide +kernel
theorem dX7_at_15 : decode cX7_at 15 = .ok (.getfield 86, 3) := by decide +kernel
theorem dX7_at_18 : decode cX7_at 18 = .ok (.iload_n 1, 1) := by decide +kernel
theorem dX7_at_19 : decode cX7_at 19 = .ok (.iaload, 1) := by decide +kernel
theorem dX7_at_20 : decode cX7_at 20 = .ok (.goto 4, 3) := by decide +kernel
theorem dX7_at_23 : decode cX7_at 23 = .ok (.iconst (-1), 1) := by decide +kernel
theorem dX7_at_24 : decode cX7_at 24 = .ok (.ireturn, 1) := by decide +kernel
theorem dX7_misplace_0 : decode cX7_misplace 0 = .ok (.iload_n 1, 1) := by decide +kernel
theorem dX7_misplace_1 : decode cX7_misplace 1 = .ok (.iconst 0, 1) := by decide +kernel
theorem dX7_misplace_2 : decode cX7_misplace 2 = .ok (.aload_n 0, 1) := by decide +kernel
theorem dX7_misplace_3 : decode cX7_misplace 3 = .ok (.getfield 176, 3) := by decide +kernel
theorem dX7_misplace_6 : decode cX7_misplace 6 = .ok (.iconst 1, 1) := by decide +kernel
theorem dX7_misplace_7 : decode cX7_misplace 7 = .ok (.isub, 1) := by decide +kernel
theorem dX7_misplace_8 : decode cX7_misplace 8 = .ok (.invokestatic 102, 3) := by decide +kernel
theorem dX7_misplace_11 : decode cX7_misplace 11 = .ok (.ifCond .eq 22, 3) := by decide +kernel
theorem dX7_misplace_14 : decode cX7_misplace 14 = .ok (.iload_n 2, 1) := by decide +kernel
theorem dX7_misplace_15 : decode cX7_misplace 15 = .ok (.iconst 0, 1) := by decide +kernel
theorem dX7_misplace_16 : decode cX7_misplace 16 = .ok (.aload_n 0, 1) := by decide +kernel
theorem dX7_misplace_17 : decode cX7_misplace 17 = .ok (.getfield 176, 3) := by decide +kernel
theorem dX7_misplace_20 : decode cX7_misplace 20 = .ok (.iconst 1, 1) := by decide +kernel
theorem dX7_misplace_21 : decode cX7_misplace 21 = .ok (.isub, 1) := by decide +kernel
theorem dX7_misplace_22 : decode cX7_misplace 22 = .ok (.invokestatic 102, 3) := by decide +kernel
theorem dX7_misplace_25 : decode cX7_misplace 25 = .ok (.ifCond .eq 8, 3) := by decide +kernel
theorem dX7_misplace_28 : decode cX7_misplace 28 = .ok (.iload_n 1, 1) := by decide +kernel
theorem dX7_misplace_29 : decode cX7_misplace 29 = .ok (.iload_n 2, 1) := by decide +kernel
theorem dX7_misplace_30 : decode cX7_misplace 30 = .ok (.if_icmp .ne 5, 3) := by decide +kernel
theorem dX7_misplace_33 : decode cX7_misplace 33 = .ok (.iconst 0, 1) := by decide +kernel
theorem dX7_misplace_34 : decode cX7_misplace 34 = .ok (.ireturn, 1) := by decide +kernel
theorem dX7_misplace_35 : decode cX7_misplace 35 = .ok (.aload_n 0, 1) := by decide +kernel
theorem dX7_misplace_36 : decode cX7_misplace 36 = .ok (.getfield 86, 3) := by decide +kernel
theorem dX7_misplace_39 : decode cX7_misplace 39 = .ok (.iload_n 1, 1) := by decide +kernel
theorem dX7_misplace_40 : decode cX7_misplace 40 = .ok (.iaload, 1) := by decide +kernel
theorem dX7_misplace_41 : decode cX7_misplace 41 = .ok (.istore_n 3, 1) := by decide +kernel
theorem dX7_misplace_42 : decode cX7_misplace 42 = .ok (.iload_n 1, 1) := by decide +kernel
theorem dX7_misplace_43 : decode cX7_misplace 43 = .ok (.istore 4, 2) := by decide +kernel
theorem dX7_misplace_45 : decode cX7_misplace 45 = .ok (.iload 4, 2) := by decide +kernel
theorem dX7_misplace_47 : decode cX7_misplace 47 = .ok (.iload_n 2, 1) := by decide +kernel
theorem dX7_misplace_48 : decode cX7_misplace 48 = .ok (.if_icmp .ge 25, 3) := by decide +kernel
theorem dX7_misplace_51 : decode cX7_misplace 51 = .ok (.aload_n 0, 1) := by decide +kernel
theorem dX7_misplace_52 : decode cX7_misplace 52 = .ok (.getfield 86, 3) := by decide +kernel
theorem dX7_misplace_55 : decode cX7_misplace 55 = .ok (.iload 4, 2) := by decide +kernel
theorem dX7_misplace_57 : decode cX7_misplace 57 = .ok (.aload_n 0, 1) := by decide +kernel
theorem dX7_misplace_58 : decode cX7_misplace 58 = .ok (.getfield 86, 3) := by decide +kernel
theorem dX7_misplace_61 : decode cX7_misplace 61 = .ok (.iload 4, 2) := by decide +kernel
theorem dX7_misplace_63 : decode cX7_misplace 63 = .ok (.iconst 1, 1) := by decide +kernel
theorem dX7_misplace_64 : decode cX7_misplace 64 = .ok (.iadd, 1) := by decide +kernel
theorem dX7_misplace_65 : decode cX7_misplace 65 = .ok (.iaload, 1) := by decide +kernel
theorem dX7_misplace_66 : decode cX7_misplace 66 = .ok (.iastore, 1) := by decide +kernel
theorem dX7_misplace_67 : decode cX7_misplace 67 = .ok (.iinc 4 1, 3) := by decide +kernel
theorem dX7_misplace_70 : decode cX7_misplace 70 = .ok (.goto (-25), 3) := by decide +kernel
theorem dX7_misplace_73 : decode cX7_misplace 73 = .ok (.iload_n 1, 1) := by decide +kernel
theorem dX7_misplace_74 : decode cX7_misplace 74 = .ok (.istore 4, 2) := by decide +kernel
theorem dX7_misplace_76 : decode cX7_misplace 76 = .ok (.iload 4, 2) := by decide +kernel
theorem dX7_misplace_78 : decode cX7_misplace 78 = .ok (.iload_n 2, 1) := by decide +kernel
theorem dX7_misplace_79 : decode cX7_misplace 79 = .ok (.if_icmp .le 25, 3) := by decide +kernel
theorem dX7_misplace_82 : decode cX7_misplace 82 = .ok (.aload_n 0, 1) := by decide +kernel
theorem dX7_misplace_83 : decode cX7_misplace 83 = .ok (.getfield 86, 3) := by decide +kernel
theorem dX7_misplace_86 : decode cX7_misplace 86 = .ok (.iload 4, 2) := by decide +kernel
theorem dX7_misplace_88 : decode cX7_misplace 88 = .ok (.aload_n 0, 1) := by decide +kernel
theorem dX7_misplace_89 : decode cX7_misplace 89 = .ok (.getfield 86, 3) := by decide +kernel
theorem dX7_misplace_92 : decode cX7_misplace 92 = .ok (.iload 4, 2) := by decide +kernel
theorem dX7_misplace_94 : decode cX7_misplace 94 = .ok (.iconst 1, 1) := by decide +kernel
theorem dX7_misplace_95 : decode cX7_misplace 95 = .ok (.isub, 1) := by decide +kernel
theorem dX7_misplace_96 : decode cX7_misplace 96 = .ok (.iaload, 1) := by decide +kernel
theorem dX7_misplace_97 : decode cX7_misplace 97 = .ok (.iastore, 1) := by decide +kernel
theorem dX7_misplace_98 : decode cX7_misplace 98 = .ok (.iinc 4 (-1), 3) := by decide +kernel
theorem dX7_misplace_101 : decode cX7_misplace 101 = .ok (.goto (-25), 3) := by decide +kernel
theorem dX7_misplace_104 : decode cX7_misplace 104 = .ok (.aload_n 0, 1) := by decide +kernel
theorem dX7_misplace_105 : decode cX7_misplace 105 = .ok (.getfield 86, 3) := by decide +kernel
theorem dX7_misplace_108 : decode cX7_misplace 108 = .ok (.iload_n 2, 1) := by decide +kernel
theorem dX7_misplace_109 : decode cX7_misplace 109 = .ok (.iload_n 3, 1) := by decide +kernel
theorem dX7_misplace_110 : decode cX7_misplace 110 = .ok (.iastore, 1) := by decide +kernel
theorem dX7_misplace_111 : decode cX7_misplace 111 = .ok (.iconst 1, 1) := by decide +kernel
theorem dX7_misplace_112 : decode cX7_misplace 112 = .ok (.ireturn, 1) := by decide +kernel
theorem dX7_takeOut_0 : decode cX7_takeOut 0 = .ok (.iconst 0, 1) := by decide +kernel
theorem dX7_takeOut_1 : decode cX7_takeOut 1 = .ok (.istore_n 1, 1) := by decide +kernel
theorem dX7_takeOut_2 : decode cX7_takeOut 2 = .ok (.aload_n 0, 1) := by decide +kernel
theorem dX7_takeOut_3 : decode cX7_takeOut 3 = .ok (.getfield 176, 3) := by decide +kernel
theorem dX7_takeOut_6 : decode cX7_takeOut 6 = .ok (.iconst 1, 1) := by decide +kernel
theorem dX7_takeOut_7 : decode cX7_takeOut 7 = .ok (.isub, 1) := by decide +kernel
theorem dX7_takeOut_8 : decode cX7_takeOut 8 = .ok (.istore_n 2, 1) := by decide +kernel
theorem dX7_takeOut_9 : decode cX7_takeOut 9 = .ok (.iload_n 2, 1) := by decide +kernel
theorem dX7_takeOut_10 : decode cX7_takeOut 10 = .ok (.ifCond .lt 105, 3) := by decide +kernel
theorem dX7_takeOut_13 : decode cX7_takeOut 13 = .ok (.aload_n 0, 1) := by decide +kernel
theorem dX7_takeOut_14 : decode cX7_takeOut 14 = .ok (.getfield 89, 3) := by decide +kernel
theorem dX7_takeOut_17 : decode cX7_takeOut 17 = .ok (.iload_n 2, 1) := by decide +kernel
theorem dX7_takeOut_18 : decode cX7_takeOut 18 = .ok (.iconst 1, 1) := by decide +kernel
theorem dX7_takeOut_19 : decode cX7_takeOut 19 = .ok (.iastore, 1) := by decide +kernel
theorem dX7_takeOut_20 : decode cX7_takeOut 20 = .ok (.iload_n 2, 1) := by decide +kernel
theorem dX7_takeOut_21 : decode cX7_takeOut 21 = .ok (.iconst 1, 1) := by decide +kernel
theorem dX7_takeOut_22 : decode cX7_takeOut 22 = .ok (.iadd, 1) := by decide +kernel
theorem dX7_takeOut_23 : decode cX7_takeOut 23 = .ok (.istore_n 3, 1) := by decide +kernel
theorem dX7_takeOut_24 : decode cX7_takeOut 24 = .ok (.iload_n 3, 1) := by decide +kernel
theorem dX7_takeOut_25 : decode cX7_takeOut 25 = .ok (.aload_n 0, 1) := by decide +kernel
theorem dX7_takeOut_26 : decode cX7_takeOut 26 = .ok (.getfield 176, 3) := by decide +kernel
theorem dX7_takeOut_29 : decode cX7_takeOut 29 = .ok (.if_icmp .ge 63, 3) := by decide +kernel
theorem dX7_takeOut_32 : decode cX7_takeOut 32 = .ok (.aload_n 0, 1) := by decide +kernel
theorem dX7_takeOut_33 : decode cX7_takeOut 33 = .ok (.aload_n 0, 1) := by decide +kernel
theorem dX7_takeOut_34 : decode cX7_takeOut 34 = .ok (.getfield 86, 3) := by decide +kernel
theorem dX7_takeOut_37 : decode cX7_takeOut 37 = .ok (.iload_n 2, 1) := by decide +kernel
theorem dX7_takeOut_38 : decode cX7_takeOut 38 = .ok (.iaload, 1) := by decide +kernel
theorem dX7_takeOut_39 : decode cX7_takeOut 39 = .ok (.aload_n 0, 1) := by decide +kernel
theorem dX7_takeOut_40 : decode cX7_takeOut 40 = .ok (.getfield 86, 3) := by decide +kernel
theorem dX7_takeOut_43 : decode cX7_takeOut 43 = .ok (.iload_n 3, 1) := by decide +kernel
theorem dX7_takeOut_44 : decode cX7_takeOut 44 = .ok (.iaload, 1) := by decide +kernel
theorem dX7_takeOut_45 : decode cX7_takeOut 45 = .ok (.aload_n 0, 1) := by decide +kernel
theorem dX7_takeOut_46 : decode cX7_takeOut 46 = .ok (.getfield 128, 3) := by decide +kernel
theorem dX7_takeOut_49 : decode cX7_takeOut 49 = .ok (.invokevirtual 141, 3) := by decide +kernel
theorem dX7_takeOut_52 : decode cX7_takeOut 52 = .ok (.ifCond .ge 34, 3) := by decide +kernel
theorem dX7_takeOut_55 : decode cX7_takeOut 55 = .ok (.aload_n 0, 1) := by decide +kernel
theorem dX7_takeOut_56 : decode cX7_takeOut 56 = .ok (.getfield 89, 3) := by decide +kernel
theorem dX7_takeOut_59 : decode cX7_takeOut 59 = .ok (.iload_n 3, 1) := by decide +kernel
theorem dX7_takeOut_60 : decode cX7_takeOut 60 = .ok (.iaload, 1) := by decide +kernel
theorem dX7_takeOut_61 : decode cX7_takeOut 61 = .ok (.iconst 1, 1) := by decide +kernel
theorem dX7_takeOut_62 : decode cX7_takeOut 62 = .ok (.iadd, 1) := by decide +kernel
theorem dX7_takeOut_63 : decode cX7_takeOut 63 = .ok (.aload_n 0, 1) := by decide +kernel
theorem dX7_takeOut_64 : decode cX7_takeOut 64 = .ok (.getfield 89, 3) := by decide +kernel
theorem dX7_takeOut_67 : decode cX7_takeOut 67 = .ok (.iload_n 2, 1) := by decide +kernel
theorem dX7_takeOut_68 : decode cX7_takeOut 68 = .ok (.iaload, 1) := by decide +kernel
theorem dX7_takeOut_69 : decode cX7_takeOut 69 = .ok (.if_icmp .le 17, 3) := by decide +kernel
theorem dX7_takeOut_72 : decode cX7_takeOut 72 = .ok (.aload_n 0, 1) := by decide +kernel
theorem dX7_takeOut_73 : decode cX7_takeOut 73 = .ok (.getfield 89, 3) := by decide +kernel
theorem dX7_takeOut_76 : decode cX7_takeOut 76 = .ok (.iload_n 2, 1) := by decide +kernel
theorem dX7_takeOut_77 : decode cX7_takeOut 77 = .ok (.aload_n 0, 1) := by decide +kernel
theorem dX7_takeOut_78 : decode cX7_takeOut 78 = .ok (.getfield 89, 3) := by decide +kernel
theorem dX7_takeOut_81 : decode cX7_takeOut 81 = .ok (.iload_n 3, 1) := by decide +kernel
theorem dX7_takeOut_82 : decode cX7_takeOut 82 = .ok (.iaload, 1) := by decide +kernel
theorem dX7_takeOut_83 : decode cX7_takeOut 83 = .ok (.iconst 1, 1) := by decide +kernel
theorem dX7_takeOut_84 : decode cX7_takeOut 84 = .ok (.iadd, 1) := by decide +kernel
theorem dX7_takeOut_85 : decode cX7_takeOut 85 = .ok (.iastore, 1) := by decide +kernel
theorem dX7_takeOut_86 : decode cX7_takeOut 86 = .ok (.iinc 3 1, 3) := by decide +kernel
theorem dX7_takeOut_89 : decode cX7_takeOut 89 = .ok (.goto (-65), 3) := by decide +kernel
theorem dX7_takeOut_92 : decode cX7_takeOut 92 = .ok (.aload_n 0, 1) := by decide +kernel
theorem dX7_takeOut_93 : decode cX7_takeOut 93 = .ok (.getfield 89, 3) := by decide +kernel
theorem dX7_takeOut_96 : decode cX7_takeOut 96 = .ok (.iload_n 2, 1) := by decide +kernel
theorem dX7_takeOut_97 : decode cX7_takeOut 97 = .ok (.iaload, 1) := by decide +kernel
theorem dX7_takeOut_98 : decode cX7_takeOut 98 = .ok (.iload_n 1, 1) := by decide +kernel
theorem dX7_takeOut_99 : decode cX7_takeOut 99 = .ok (.if_icmp .le 10, 3) := by decide +kernel
theorem dX7_takeOut_102 : decode cX7_takeOut 102 = .ok (.aload_n 0, 1) := by decide +kernel
theorem dX7_takeOut_103 : decode cX7_takeOut 103 = .ok (.getfield 89, 3) := by decide +kernel
theorem dX7_takeOut_106 : decode cX7_takeOut 106 = .ok (.iload_n 2, 1) := by decide +kernel
theorem dX7_takeOut_107 : decode cX7_takeOut 107 = .ok (.iaload, 1) := by decide +kernel
theorem dX7_takeOut_108 : decode cX7_takeOut 108 = .ok (.istore_n 1, 1) := by decide +kernel
theorem dX7_takeOut_109 : decode cX7_takeOut 109 = .ok (.iinc 2 (-1), 3) := by decide +kernel
theorem dX7_takeOut_112 : decode cX7_takeOut 112 = .ok (.goto (-103), 3) := by decide +kernel
theorem dX7_takeOut_115 : decode cX7_takeOut 115 = .ok (.iload_n 1, 1) := by decide +kernel
theorem dX7_takeOut_116 : decode cX7_takeOut 116 = .ok (.istore_n 2, 1) := by decide +kernel
theorem dX7_takeOut_117 : decode cX7_takeOut 117 = .ok (.iconst (-1), 1) := by decide +kernel
theorem dX7_takeOut_118 : decode cX7_takeOut 118 = .ok (.istore_n 3, 1) := by decide +kernel
theorem dX7_takeOut_119 : decode cX7_takeOut 119 = .ok (.iconst 0, 1) := by decide +kernel
theorem dX7_takeOut_120 : decode cX7_takeOut 120 = .ok (.istore 4, 2) := by decide +kernel
theorem dX7_takeOut_122 : decode cX7_takeOut 122 = .ok (.iload 4, 2) := by decide +kernel
theorem dX7_takeOut_124 : decode cX7_takeOut 124 = .ok (.aload_n 0, 1) := by decide +kernel
theorem dX7_takeOut_125 : decode cX7_takeOut 125 = .ok (.getfield 176, 3) := by decide +kernel
theorem dX7_takeOut_128 : decode cX7_takeOut 128 = .ok (.if_icmp .ge 83, 3) := by decide +kernel
theorem dX7_takeOut_131 : decode cX7_takeOut 131 = .ok (.aload_n 0, 1) := by decide +kernel
theorem dX7_takeOut_132 : decode cX7_takeOut 132 = .ok (.getfield 92, 3) := by decide +kernel
theorem dX7_takeOut_135 : decode cX7_takeOut 135 = .ok (.iload 4, 2) := by decide +kernel
theorem dX7_takeOut_137 : decode cX7_takeOut 137 = .ok (.iload_n 2, 1) := by decide +kernel
theorem dX7_takeOut_138 : decode cX7_takeOut 138 = .ok (.ifCond .eq 37, 3) := by decide +kernel
theorem dX7_takeOut_141 : decode cX7_takeOut 141 = .ok (.aload_n 0, 1) := by decide +kernel
theorem dX7_takeOut_142 : decode cX7_takeOut 142 = .ok (.getfield 89, 3) := by decide +kernel
theorem dX7_takeOut_145 : decode cX7_takeOut 145 = .ok (.iload 4, 2) := by decide +kernel
theorem dX7_takeOut_147 : decode cX7_takeOut 147 = .ok (.iaload, 1) := by decide +kernel
theorem dX7_takeOut_148 : decode cX7_takeOut 148 = .ok (.iload_n 2, 1) := by decide +kernel
theorem dX7_takeOut_149 : decode cX7_takeOut 149 = .ok (.if_icmp .ne 26, 3) := by decide +kernel
theorem dX7_takeOut_152 : decode cX7_takeOut 152 = .ok (.iload_n 3, 1) := by decide +kernel
theorem dX7_takeOut_153 : decode cX7_takeOut 153 = .ok (.ifCond .lt 26, 3) := by decide +kernel
theorem dX7_takeOut_156 : decode cX7_takeOut 156 = .ok (.aload_n 0, 1) := by decide +kernel
theorem dX7_takeOut_157 : decode cX7_takeOut 157 = .ok (.iload_n 3, 1) := by decide +kernel
theorem dX7_takeOut_158 : decode cX7_takeOut 158 = .ok (.aload_n 0, 1) := by decide +kernel
theorem dX7_takeOut_159 : decode cX7_takeOut 159 = .ok (.getfield 86, 3) := by decide +kernel
theorem dX7_takeOut_162 : decode cX7_takeOut 162 = .ok (.iload 4, 2) := by decide +kernel
theorem dX7_takeOut_164 : decode cX7_takeOut 164 = .ok (.iaload, 1) := by decide +kernel
theorem dX7_takeOut_165 : decode cX7_takeOut 165 = .ok (.aload_n 0, 1) := by decide +kernel
theorem dX7_takeOut_166 : decode cX7_takeOut 166 = .ok (.getfield 128, 3) := by decide +kernel
theorem dX7_takeOut_169 : decode cX7_takeOut 169 = .ok (.invokevirtual 141, 3) := by decide +kernel
theorem dX7_takeOut_172 : decode cX7_takeOut 172 = .ok (.ifCond .le 7, 3) := by decide +kernel
theorem dX7_takeOut_175 : decode cX7_takeOut 175 = .ok (.iconst 1, 1) := by decide +kernel
theorem dX7_takeOut_176 : decode cX7_takeOut 176 = .ok (.goto 4, 3) := by decide +kernel
theorem dX7_takeOut_179 : decode cX7_takeOut 179 = .ok (.iconst 0, 1) := by decide +kernel
theorem dX7_takeOut_180 : decode cX7_takeOut 180 = .ok (.bastore, 1) := by decide +kernel
theorem dX7_takeOut_181 : decode cX7_takeOut 181 = .ok (.aload_n 0, 1) := by decide +kernel
theorem dX7_takeOut_182 : decode cX7_takeOut 182 = .ok (.getfield 92, 3) := by decide +kernel
theorem dX7_takeOut_185 : decode cX7_takeOut 185 = .ok (.iload 4, 2) := by decide +kernel
theorem dX7_takeOut_187 : decode cX7_takeOut 187 = .ok (.baload, 1) := by decide +kernel
theorem dX7_takeOut_188 : decode cX7_takeOut 188 = .ok (.ifCond .eq 6, 3) := by decide +kernel
theorem dX7_takeOut_191 : decode cX7_takeOut 191 = .ok (.goto 14, 3) := by decide +kernel
theorem dX7_takeOut_194 : decode cX7_takeOut 194 = .ok (.aload_n 0, 1) := by decide +kernel
theorem dX7_takeOut_195 : decode cX7_takeOut 195 = .ok (.getfield 86, 3) := by decide +kernel
theorem dX7_takeOut_198 : decode cX7_takeOut 198 = .ok (.iload 4, 2) := by decide +kernel
theorem dX7_takeOut_200 : decode cX7_takeOut 200 = .ok (.iaload, 1) := by decide +kernel
theorem dX7_takeOut_201 : decode cX7_takeOut 201 = .ok (.istore_n 3, 1) := by decide +kernel
theorem dX7_takeOut_202 : decode cX7_takeOut 202 = .ok (.iinc 2 (-1), 3) := by decide +kernel
theorem dX7_takeOut_205 : decode cX7_takeOut 205 = .ok (.iinc 4 1, 3) := by decide +kernel
theorem dX7_takeOut_208 : decode cX7_takeOut 208 = .ok (.goto (-86), 3) := by decide +kernel
theorem dX7_takeOut_211 : decode cX7_takeOut 211 = .ok (.aload_n 0, 1) := by decide +kernel
theorem dX7_takeOut_212 : decode cX7_takeOut 212 = .ok (.getfield 176, 3) := by decide +kernel
theorem dX7_takeOut_215 : decode cX7_takeOut 215 = .ok (.iload_n 1, 1) := by decide +kernel
theorem dX7_takeOut_216 : decode cX7_takeOut 216 = .ok (.isub, 1) := by decide +kernel
theorem dX7_takeOut_217 : decode cX7_takeOut 217 = .ok (.ireturn, 1) := by decide +kernel
theorem dX7_takenOut_0 : decode cX7_takenOut 0 = .ok (.aload_n 0, 1) := by decide +kernel
theorem dX7_takenOut_1 : decode cX7_takenOut 1 = .ok (.invokevirtual 179, 3) := by decide +kernel
theorem dX7_takenOut_4 : decode cX7_takenOut 4 = .ok (.ireturn, 1) := by decide +kernel
theorem dX7_isOut_0 : decode cX7_isOut 0 = .ok (.iload_n 1, 1) := by decide +kernel
theorem dX7_isOut_1 : decode cX7_isOut 1 = .ok (.iconst 0, 1) := by decide +kernel
theorem dX7_isOut_2 : decode cX7_isOut 2 = .ok (.aload_n 0, 1) := by decide +kernel
theorem dX7_isOut_3 : decode cX7_isOut 3 = .ok (.getfield 176, 3) := by decide +kernel
theorem dX7_isOut_6 : decode cX7_isOut 6 = .ok (.iconst 1, 1) := by decide +kernel
theorem dX7_isOut_7 : decode cX7_isOut 7 = .ok (.isub, 1) := by decide +kernel
theorem dX7_isOut_8 : decode cX7_isOut 8 = .ok (.invokestatic 102, 3) := by decide +kernel
theorem dX7_isOut_11 : decode cX7_isOut 11 = .ok (.ifCond .ne 5, 3) := by decide +kernel
theorem dX7_isOut_14 : decode cX7_isOut 14 = .ok (.iconst (-1), 1) := by decide +kernel
theorem dX7_isOut_15 : decode cX7_isOut 15 = .ok (.ireturn, 1) := by decide +kernel
theorem dX7_isOut_16 : decode cX7_isOut 16 = .ok (.aload_n 0, 1) := by decide +kernel
theorem dX7_isOut_17 : decode cX7_isOut 17 = .ok (.invokevirtual 179, 3) := by decide +kernel
theorem dX7_isOut_20 : decode cX7_isOut 20 = .ok (.pop, 1) := by decide +kernel
theorem dX7_isOut_21 : decode cX7_isOut 21 = .ok (.aload_n 0, 1) := by decide +kernel
theorem dX7_isOut_22 : decode cX7_isOut 22 = .ok (.getfield 92, 3) := by decide +kernel
theorem dX7_isOut_25 : decode cX7_isOut 25 = .ok (.iload_n 1, 1) := by decide +kernel
theorem dX7_isOut_26 : decode cX7_isOut 26 = .ok (.baload, 1) := by decide +kernel
theorem dX7_isOut_27 : decode cX7_isOut 27 = .ok (.ifCond .eq 7, 3) := by decide +kernel
theorem dX7_isOut_30 : decode cX7_isOut 30 = .ok (.iconst 1, 1) := by decide +kernel
theorem dX7_isOut_31 : decode cX7_isOut 31 = .ok (.goto 4, 3) := by decide +kernel
theorem dX7_isOut_34 : decode cX7_isOut 34 = .ok (.iconst 0, 1) := by decide +kernel
theorem dX7_isOut_35 : decode cX7_isOut 35 = .ok (.ireturn, 1) := by decide +kernel
theorem dX7_drawn_0 : decode cX7_drawn 0 = .ok (.aload_n 0, 1) := by decide +kernel
theorem dX7_drawn_1 : decode cX7_drawn 1 = .ok (.getfield 176, 3) := by decide +kernel
theorem dX7_drawn_4 : decode cX7_drawn 4 = .ok (.iconst 1, 1) := by decide +kernel
theorem dX7_drawn_5 : decode cX7_drawn 5 = .ok (.isub, 1) := by decide +kernel
theorem dX7_drawn_6 : decode cX7_drawn 6 = .ok (.istore 4, 2) := by decide +kernel
theorem dX7_drawn_8 : decode cX7_drawn 8 = .ok (.iload_n 1, 1) := by decide +kernel
theorem dX7_drawn_9 : decode cX7_drawn 9 = .ok (.iconst 1, 1) := by decide +kernel
theorem dX7_drawn_10 : decode cX7_drawn 10 = .ok (.iload 4, 2) := by decide +kernel
theorem dX7_drawn_12 : decode cX7_drawn 12 = .ok (.invokestatic 102, 3) := by decide +kernel
theorem dX7_drawn_15 : decode cX7_drawn 15 = .ok (.ifCond .eq 12, 3) := by decide +kernel
theorem dX7_drawn_18 : decode cX7_drawn 18 = .ok (.iload_n 3, 1) := by decide +kernel
theorem dX7_drawn_19 : decode cX7_drawn 19 = .ok (.iconst 0, 1) := by decide +kernel
theorem dX7_drawn_20 : decode cX7_drawn 20 = .ok (.iconst 2, 1) := by decide +kernel
theorem dX7_drawn_21 : decode cX7_drawn 21 = .ok (.invokestatic 102, 3) := by decide +kernel
theorem dX7_drawn_24 : decode cX7_drawn 24 = .ok (.ifCond .ne 5, 3) := by decide +kernel
theorem dX7_drawn_27 : decode cX7_drawn 27 = .ok (.iconst (-1), 1) := by decide +kernel
theorem dX7_drawn_28 : decode cX7_drawn 28 = .ok (.ireturn, 1) := by decide +kernel
theorem dX7_drawn_29 : decode cX7_drawn 29 = .ok (.iload_n 2, 1) := by decide +kernel
theorem dX7_drawn_30 : decode cX7_drawn 30 = .ok (.istore 5, 2) := by decide +kernel
theorem dX7_drawn_32 : decode cX7_drawn 32 = .ok (.iconst 0, 1) := by decide +kernel
theorem dX7_drawn_33 : decode cX7_drawn 33 = .ok (.istore 6, 2) := by decide +kernel
theorem dX7_drawn_35 : decode cX7_drawn 35 = .ok (.iload 6, 2) := by decide +kernel
theorem dX7_drawn_37 : decode cX7_drawn 37 = .ok (.iload 4, 2) := by decide +kernel
theorem dX7_drawn_39 : decode cX7_drawn 39 = .ok (.if_icmp .ge 18, 3) := by decide +kernel
theorem dX7_drawn_42 : decode cX7_drawn 42 = .ok (.aload_n 0, 1) := by decide +kernel
theorem dX7_drawn_43 : decode cX7_drawn 43 = .ok (.getfield 96, 3) := by decide +kernel
theorem dX7_drawn_46 : decode cX7_drawn 46 = .ok (.iload 6, 2) := by decide +kernel
theorem dX7_drawn_48 : decode cX7_drawn 48 = .ok (.iload 6, 2) := by decide +kernel
theorem dX7_drawn_50 : decode cX7_drawn 50 = .ok (.iastore, 1) := by decide +kernel
theorem dX7_drawn_51 : decode cX7_drawn 51 = .ok (.iinc 6 1, 3) := by decide +kernel
theorem dX7_drawn_54 : decode cX7_drawn 54 = .ok (.goto (-19), 3) := by decide +kernel
theorem dX7_drawn_57 : decode cX7_drawn 57 = .ok (.iconst 0, 1) := by decide +kernel
theorem dX7_drawn_58 : decode cX7_drawn 58 = .ok (.istore 6, 2) := by decide +kernel
theorem dX7_drawn_60 : decode cX7_drawn 60 = .ok (.iconst 0, 1) := by decide +kernel
theorem dX7_drawn_61 : decode cX7_drawn 61 = .ok (.istore 7, 2) := by decide +kernel
theorem dX7_drawn_63 : decode cX7_drawn 63 = .ok (.iload 7, 2) := by decide +kernel
theorem dX7_drawn_65 : decode cX7_drawn 65 = .ok (.iload_n 1, 1) := by decide +kernel
theorem dX7_drawn_66 : decode cX7_drawn 66 = .ok (.if_icmp .ge 115, 3) := by decide +kernel
theorem dX7_drawn_69 : decode cX7_drawn 69 = .ok (.iload 5, 2) := by decide +kernel
theorem dX7_drawn_71 : decode cX7_drawn 71 = .ok (.ldc 182, 2) := by decide +kernel
theorem dX7_drawn_73 : decode cX7_drawn 73 = .ok (.imul, 1) := by decide +kernel
theorem dX7_drawn_74 : decode cX7_drawn 74 = .ok (.sipush 12345, 3) := by decide +kernel
theorem dX7_drawn_77 : decode cX7_drawn 77 = .ok (.iadd, 1) := by decide +kernel
theorem dX7_drawn_78 : decode cX7_drawn 78 = .ok (.istore 5, 2) := by decide +kernel
theorem dX7_drawn_80 : decode cX7_drawn 80 = .ok (.iload 7, 2) := by decide +kernel
theorem dX7_drawn_82 : decode cX7_drawn 82 = .ok (.iload 5, 2) := by decide +kernel
theorem dX7_drawn_84 : decode cX7_drawn 84 = .ok (.bipush 16, 2) := by decide +kernel
theorem dX7_drawn_86 : decode cX7_drawn 86 = .ok (.iushr, 1) := by decide +kernel
theorem dX7_drawn_87 : decode cX7_drawn 87 = .ok (.iload 4, 2) := by decide +kernel
theorem dX7_drawn_89 : decode cX7_drawn 89 = .ok (.iload 7, 2) := by decide +kernel
theorem dX7_drawn_91 : decode cX7_drawn 91 = .ok (.isub, 1) := by decide +kernel
theorem dX7_drawn_92 : decode cX7_drawn 92 = .ok (.irem, 1) := by decide +kernel
theorem dX7_drawn_93 : decode cX7_drawn 93 = .ok (.iadd, 1) := by decide +kernel
theorem dX7_drawn_94 : decode cX7_drawn 94 = .ok (.istore 8, 2) := by decide +kernel
theorem dX7_drawn_96 : decode cX7_drawn 96 = .ok (.aload_n 0, 1) := by decide +kernel
theorem dX7_drawn_97 : decode cX7_drawn 97 = .ok (.getfield 96, 3) := by decide +kernel
theorem dX7_drawn_100 : decode cX7_drawn 100 = .ok (.iload 7, 2) := by decide +kernel
theorem dX7_drawn_102 : decode cX7_drawn 102 = .ok (.iaload, 1) := by decide +kernel
theorem dX7_drawn_103 : decode cX7_drawn 103 = .ok (.istore 9, 2) := by decide +kernel
theorem dX7_drawn_105 : decode cX7_drawn 105 = .ok (.aload_n 0, 1) := by decide +kernel
theorem dX7_drawn_106 : decode cX7_drawn 106 = .ok (.getfield 96, 3) := by decide +kernel
theorem dX7_drawn_109 : decode cX7_drawn 109 = .ok (.iload 7, 2) := by decide +kernel
theorem dX7_drawn_111 : decode cX7_drawn 111 = .ok (.aload_n 0, 1) := by decide +kernel
theorem dX7_drawn_112 : decode cX7_drawn 112 = .ok (.getfield 96, 3) := by decide +kernel
theorem dX7_drawn_115 : decode cX7_drawn 115 = .ok (.iload 8, 2) := by decide +kernel
theorem dX7_drawn_117 : decode cX7_drawn 117 = .ok (.iaload, 1) := by decide +kernel
theorem dX7_drawn_118 : decode cX7_drawn 118 = .ok (.iastore, 1) := by decide +kernel
theorem dX7_drawn_119 : decode cX7_drawn 119 = .ok (.aload_n 0, 1) := by decide +kernel
theorem dX7_drawn_120 : decode cX7_drawn 120 = .ok (.getfield 96, 3) := by decide +kernel
theorem dX7_drawn_123 : decode cX7_drawn 123 = .ok (.iload 8, 2) := by decide +kernel
theorem dX7_drawn_125 : decode cX7_drawn 125 = .ok (.iload 9, 2) := by decide +kernel
theorem dX7_drawn_127 : decode cX7_drawn 127 = .ok (.iastore, 1) := by decide +kernel
theorem dX7_drawn_128 : decode cX7_drawn 128 = .ok (.iload 6, 2) := by decide +kernel
theorem dX7_drawn_130 : decode cX7_drawn 130 = .ok (.aload_n 0, 1) := by decide +kernel
theorem dX7_drawn_131 : decode cX7_drawn 131 = .ok (.aload_n 0, 1) := by decide +kernel
theorem dX7_drawn_132 : decode cX7_drawn 132 = .ok (.getfield 86, 3) := by decide +kernel
theorem dX7_drawn_135 : decode cX7_drawn 135 = .ok (.aload_n 0, 1) := by decide +kernel
theorem dX7_drawn_136 : decode cX7_drawn 136 = .ok (.getfield 96, 3) := by decide +kernel
theorem dX7_drawn_139 : decode cX7_drawn 139 = .ok (.iload 7, 2) := by decide +kernel
theorem dX7_drawn_141 : decode cX7_drawn 141 = .ok (.iaload, 1) := by decide +kernel
theorem dX7_drawn_142 : decode cX7_drawn 142 = .ok (.iaload, 1) := by decide +kernel
theorem dX7_drawn_143 : decode cX7_drawn 143 = .ok (.aload_n 0, 1) := by decide +kernel
theorem dX7_drawn_144 : decode cX7_drawn 144 = .ok (.getfield 86, 3) := by decide +kernel
theorem dX7_drawn_147 : decode cX7_drawn 147 = .ok (.aload_n 0, 1) := by decide +kernel
theorem dX7_drawn_148 : decode cX7_drawn 148 = .ok (.getfield 96, 3) := by decide +kernel
theorem dX7_drawn_151 : decode cX7_drawn 151 = .ok (.iload 7, 2) := by decide +kernel
theorem dX7_drawn_153 : decode cX7_drawn 153 = .ok (.iaload, 1) := by decide +kernel
theorem dX7_drawn_154 : decode cX7_drawn 154 = .ok (.iconst 1, 1) := by decide +kernel
theorem dX7_drawn_155 : decode cX7_drawn 155 = .ok (.iadd, 1) := by decide +kernel
theorem dX7_drawn_156 : decode cX7_drawn 156 = .ok (.iaload, 1) := by decide +kernel
theorem dX7_drawn_157 : decode cX7_drawn 157 = .ok (.aload_n 0, 1) := by decide +kernel
theorem dX7_drawn_158 : decode cX7_drawn 158 = .ok (.getfield 128, 3) := by decide +kernel
theorem dX7_drawn_161 : decode cX7_drawn 161 = .ok (.invokevirtual 141, 3) := by decide +kernel
theorem dX7_drawn_164 : decode cX7_drawn 164 = .ok (.ifCond .le 7, 3) := by decide +kernel
theorem dX7_drawn_167 : decode cX7_drawn 167 = .ok (.iconst 1, 1) := by decide +kernel
theorem dX7_drawn_168 : decode cX7_drawn 168 = .ok (.goto 4, 3) := by decide +kernel
theorem dX7_drawn_171 : decode cX7_drawn 171 = .ok (.iconst 0, 1) := by decide +kernel
theorem dX7_drawn_172 : decode cX7_drawn 172 = .ok (.iadd, 1) := by decide +kernel
theorem dX7_drawn_173 : decode cX7_drawn 173 = .ok (.istore 6, 2) := by decide +kernel
theorem dX7_drawn_175 : decode cX7_drawn 175 = .ok (.iinc 7 1, 3) := by decide +kernel
theorem dX7_drawn_178 : decode cX7_drawn 178 = .ok (.goto (-115), 3) := by decide +kernel
theorem dX7_drawn_181 : decode cX7_drawn 181 = .ok (.iload_n 3, 1) := by decide +kernel
theorem dX7_drawn_182 : decode cX7_drawn 182 = .ok (.iconst 2, 1) := by decide +kernel
theorem dX7_drawn_183 : decode cX7_drawn 183 = .ok (.if_icmp .ne 13, 3) := by decide +kernel
theorem dX7_drawn_186 : decode cX7_drawn 186 = .ok (.iload 6, 2) := by decide +kernel
theorem dX7_drawn_188 : decode cX7_drawn 188 = .ok (.iload 4, 2) := by decide +kernel
theorem dX7_drawn_190 : decode cX7_drawn 190 = .ok (.iadd, 1) := by decide +kernel
theorem dX7_drawn_191 : decode cX7_drawn 191 = .ok (.iload_n 1, 1) := by decide +kernel
theorem dX7_drawn_192 : decode cX7_drawn 192 = .ok (.isub, 1) := by decide +kernel
theorem dX7_drawn_193 : decode cX7_drawn 193 = .ok (.goto 5, 3) := by decide +kernel
theorem dX7_drawn_196 : decode cX7_drawn 196 = .ok (.iload 6, 2) := by decide +kernel
theorem dX7_drawn_198 : decode cX7_drawn 198 = .ok (.ireturn, 1) := by decide +kernel
theorem dX7_about_0 : decode cX7_about 0 = .ok (.iload_n 1, 1) := by decide +kernel
theorem dX7_about_1 : decode cX7_about 1 = .ok (.bipush 10, 2) := by decide +kernel
theorem dX7_about_3 : decode cX7_about 3 = .ok (.bipush 19, 2) := by decide +kernel
theorem dX7_about_5 : decode cX7_about 5 = .ok (.invokestatic 102, 3) := by decide +kernel
theorem dX7_about_8 : decode cX7_about 8 = .ok (.ifCond .eq 13, 3) := by decide +kernel
theorem dX7_about_11 : decode cX7_about 11 = .ok (.aload_n 0, 1) := by decide +kernel
theorem dX7_about_12 : decode cX7_about 12 = .ok (.getfield 41, 3) := by decide +kernel
theorem dX7_about_15 : decode cX7_about 15 = .ok (.iload_n 1, 1) := by decide +kernel
theorem dX7_about_16 : decode cX7_about 16 = .ok (.bipush 10, 2) := by decide +kernel
theorem dX7_about_18 : decode cX7_about 18 = .ok (.isub, 1) := by decide +kernel
theorem dX7_about_19 : decode cX7_about 19 = .ok (.iaload, 1) := by decide +kernel
theorem dX7_about_20 : decode cX7_about 20 = .ok (.ireturn, 1) := by decide +kernel
theorem dX7_about_21 : decode cX7_about 21 = .ok (.iload_n 1, 1) := by decide +kernel
theorem dX7_about_22 : decode cX7_about 22 = .ok (.bipush 20, 2) := by decide +kernel
theorem dX7_about_24 : decode cX7_about 24 = .ok (.bipush 24, 2) := by decide +kernel
theorem dX7_about_26 : decode cX7_about 26 = .ok (.invokestatic 102, 3) := by decide +kernel
theorem dX7_about_29 : decode cX7_about 29 = .ok (.ifCond .eq 13, 3) := by decide +kernel
theorem dX7_about_32 : decode cX7_about 32 = .ok (.aload_n 0, 1) := by decide +kernel
theorem dX7_about_33 : decode cX7_about 33 = .ok (.getfield 44, 3) := by decide +kernel
theorem dX7_about_36 : decode cX7_about 36 = .ok (.iload_n 1, 1) := by decide +kernel
theorem dX7_about_37 : decode cX7_about 37 = .ok (.bipush 20, 2) := by decide +kernel
theorem dX7_about_39 : decode cX7_about 39 = .ok (.isub, 1) := by decide +kernel
theorem dX7_about_40 : decode cX7_about 40 = .ok (.iaload, 1) := by decide +kernel
theorem dX7_about_41 : decode cX7_about 41 = .ok (.ireturn, 1) := by decide +kernel
theorem dX7_about_42 : decode cX7_about 42 = .ok (.iload_n 1, 1) := by decide +kernel
theorem dX7_about_43 : decode cX7_about 43 = .ok (.tableswitch 76 0 6 #[41, 46, 51, 56, 61, 66, 71], 41) := by decide +kernel
theorem dX7_about_84 : decode cX7_about 84 = .ok (.aload_n 0, 1) := by decide +kernel
theorem dX7_about_85 : decode cX7_about 85 = .ok (.getfield 99, 3) := by decide +kernel
theorem dX7_about_88 : decode cX7_about 88 = .ok (.ireturn, 1) := by decide +kernel
theorem dX7_about_89 : decode cX7_about 89 = .ok (.aload_n 0, 1) := by decide +kernel
theorem dX7_about_90 : decode cX7_about 90 = .ok (.getfield 148, 3) := by decide +kernel
theorem dX7_about_93 : decode cX7_about 93 = .ok (.ireturn, 1) := by decide +kernel
theorem dX7_about_94 : decode cX7_about 94 = .ok (.aload_n 0, 1) := by decide +kernel
theorem dX7_about_95 : decode cX7_about 95 = .ok (.getfield 128, 3) := by decide +kernel
theorem dX7_about_98 : decode cX7_about 98 = .ok (.ireturn, 1) := by decide +kernel
theorem dX7_about_99 : decode cX7_about 99 = .ok (.aload_n 0, 1) := by decide +kernel
theorem dX7_about_100 : decode cX7_about 100 = .ok (.getfield 7, 3) := by decide +kernel
theorem dX7_about_103 : decode cX7_about 103 = .ok (.ireturn, 1) := by decide +kernel
theorem dX7_about_104 : decode cX7_about 104 = .ok (.aload_n 0, 1) := by decide +kernel
theorem dX7_about_105 : decode cX7_about 105 = .ok (.getfield 13, 3) := by decide +kernel
theorem dX7_about_108 : decode cX7_about 108 = .ok (.ireturn, 1) := by decide +kernel
theorem dX7_about_109 : decode cX7_about 109 = .ok (.aload_n 0, 1) := by decide +kernel
theorem dX7_about_110 : decode cX7_about 110 = .ok (.getfield 176, 3) := by decide +kernel
theorem dX7_about_113 : decode cX7_about 113 = .ok (.ireturn, 1) := by decide +kernel
theorem dX7_about_114 : decode cX7_about 114 = .ok (.aload_n 0, 1) := by decide +kernel
theorem dX7_about_115 : decode cX7_about 115 = .ok (.getfield 106, 3) := by decide +kernel
theorem dX7_about_118 : decode cX7_about 118 = .ok (.ireturn, 1) := by decide +kernel
theorem dX7_about_119 : decode cX7_about 119 = .ok (.iconst (-1), 1) := by decide +kernel
theorem dX7_about_120 : decode cX7_about 120 = .ok (.ireturn, 1) := by decide +kernel
theorem dL_law_0 : decode cL_law 0 = .ok (.new 7, 3) := by decide +kernel
theorem dL_law_3 : decode cL_law 3 = .ok (.dup, 1) := by decide +kernel
theorem dL_law_4 : decode cL_law 4 = .ok (.invokespecial 9, 3) := by decide +kernel
theorem dL_law_7 : decode cL_law 7 = .ok (.astore_n 1, 1) := by decide +kernel
theorem dL_law_8 : decode cL_law 8 = .ok (.new 10, 3) := by decide +kernel
theorem dL_law_11 : decode cL_law 11 = .ok (.dup, 1) := by decide +kernel
theorem dL_law_12 : decode cL_law 12 = .ok (.invokespecial 12, 3) := by decide +kernel
theorem dL_law_15 : decode cL_law 15 = .ok (.astore_n 2, 1) := by decide +kernel
theorem dL_law_16 : decode cL_law 16 = .ok (.iconst 0, 1) := by decide +kernel
theorem dL_law_17 : decode cL_law 17 = .ok (.istore_n 3, 1) := by decide +kernel
theorem dL_law_18 : decode cL_law 18 = .ok (.iload_n 3, 1) := by decide +kernel
theorem dL_law_19 : decode cL_law 19 = .ok (.aload_n 0, 1) := by decide +kernel
theorem dL_law_20 : decode cL_law 20 = .ok (.arraylength, 1) := by decide +kernel
theorem dL_law_21 : decode cL_law 21 = .ok (.bipush 6, 2) := by decide +kernel
theorem dL_law_23 : decode cL_law 23 = .ok (.isub, 1) := by decide +kernel
theorem dL_law_24 : decode cL_law 24 = .ok (.if_icmp .gt 828, 3) := by decide +kernel
theorem dL_law_27 : decode cL_law 27 = .ok (.aload_n 0, 1) := by decide +kernel
theorem dL_law_28 : decode cL_law 28 = .ok (.iload_n 3, 1) := by decide +kernel
theorem dL_law_29 : decode cL_law 29 = .ok (.iaload, 1) := by decide +kernel
theorem dL_law_30 : decode cL_law 30 = .ok (.bipush 31, 2) := by decide +kernel
theorem dL_law_32 : decode cL_law 32 = .ok (.iand, 1) := by decide +kernel
theorem dL_law_33 : decode cL_law 33 = .ok (.tableswitch 813 0 23 #[111, 174, 197, 240, 253, 276, 319, 352, 365, 388, 421, 454, 487, 510, 543, 576, 599, 642, 655, 678, 711, 724, 747, 790], 111) := by decide +kernel
theorem dL_law_144 : decode cL_law 144 = .ok (.aload_n 1, 1) := by decide +kernel
theorem dL_law_145 : decode cL_law 145 = .ok (.aload_n 0, 1) := by decide +kernel
theorem dL_law_146 : decode cL_law 146 = .ok (.iload_n 3, 1) := by decide +kernel
theorem dL_law_147 : decode cL_law 147 = .ok (.iconst 1, 1) := by decide +kernel
theorem dL_law_148 : decode cL_law 148 = .ok (.iadd, 1) := by decide +kernel
theorem dL_law_149 : decode cL_law 149 = .ok (.iaload, 1) := by decide +kernel
theorem dL_law_150 : decode cL_law 150 = .ok (.aload_n 0, 1) := by decide +kernel
theorem dL_law_151 : decode cL_law 151 = .ok (.iload_n 3, 1) := by decide +kernel
theorem dL_law_152 : decode cL_law 152 = .ok (.iconst 2, 1) := by decide +kernel
theorem dL_law_153 : decode cL_law 153 = .ok (.iadd, 1) := by decide +kernel
theorem dL_law_154 : decode cL_law 154 = .ok (.iaload, 1) := by decide +kernel
theorem dL_law_155 : decode cL_law 155 = .ok (.aload_n 0, 1) := by decide +kernel
theorem dL_law_156 : decode cL_law 156 = .ok (.iload_n 3, 1) := by decide +kernel
theorem dL_law_157 : decode cL_law 157 = .ok (.iconst 3, 1) := by decide +kernel
theorem dL_law_158 : decode cL_law 158 = .ok (.iadd, 1) := by decide +kernel
theorem dL_law_159 : decode cL_law 159 = .ok (.iaload, 1) := by decide +kernel
theorem dL_law_160 : decode cL_law 160 = .ok (.aload_n 0, 1) := by decide +kernel
theorem dL_law_161 : decode cL_law 161 = .ok (.iload_n 3, 1) := by decide +kernel
theorem dL_law_162 : decode cL_law 162 = .ok (.iconst 4, 1) := by decide +kernel
theorem dL_law_163 : decode cL_law 163 = .ok (.iadd, 1) := by decide +kernel
theorem dL_law_164 : decode cL_law 164 = .ok (.iaload, 1) := by decide +kernel
theorem dL_law_165 : decode cL_law 165 = .ok (.aload_n 0, 1) := by decide +kernel
theorem dL_law_166 : decode cL_law 166 = .ok (.iload_n 3, 1) := by decide +kernel
theorem dL_law_167 : decode cL_law 167 = .ok (.iconst 5, 1) := by decide +kernel
theorem dL_law_168 : decode cL_law 168 = .ok (.iadd, 1) := by decide +kernel
theorem dL_law_169 : decode cL_law 169 = .ok (.iaload, 1) := by decide +kernel
theorem dL_law_170 : decode cL_law 170 = .ok (.invokevirtual 13, 3) := by decide +kernel
theorem dL_law_173 : decode cL_law 173 = .ok (.aload_n 2, 1) := by decide +kernel
theorem dL_law_174 : decode cL_law 174 = .ok (.aload_n 0, 1) := by decide +kernel
theorem dL_law_175 : decode cL_law 175 = .ok (.iload_n 3, 1) := by decide +kernel
theorem dL_law_176 : decode cL_law 176 = .ok (.iconst 1, 1) := by decide +kernel
theorem dL_law_177 : decode cL_law 177 = .ok (.iadd, 1) := by decide +kernel
theorem dL_law_178 : decode cL_law 178 = .ok (.iaload, 1) := by decide +kernel
theorem dL_law_179 : decode cL_law 179 = .ok (.aload_n 0, 1) := by decide +kernel
theorem dL_law_180 : decode cL_law 180 = .ok (.iload_n 3, 1) := by decide +kernel
theorem dL_law_181 : decode cL_law 181 = .ok (.iconst 2, 1) := by decide +kernel
theorem dL_law_182 : decode cL_law 182 = .ok (.iadd, 1) := by decide +kernel
theorem dL_law_183 : decode cL_law 183 = .ok (.iaload, 1) := by decide +kernel
theorem dL_law_184 : decode cL_law 184 = .ok (.aload_n 0, 1) := by decide +kernel
theorem dL_law_185 : decode cL_law 185 = .ok (.iload_n 3, 1) := by decide +kernel
theorem dL_law_186 : decode cL_law 186 = .ok (.iconst 3, 1) := by decide +kernel
theorem dL_law_187 : decode cL_law 187 = .ok (.iadd, 1) := by decide +kernel
theorem dL_law_188 : decode cL_law 188 = .ok (.iaload, 1) := by decide +kernel
theorem dL_law_189 : decode cL_law 189 = .ok (.aload_n 0, 1) := by decide +kernel
theorem dL_law_190 : decode cL_law 190 = .ok (.iload_n 3, 1) := by decide +kernel
theorem dL_law_191 : decode cL_law 191 = .ok (.iconst 4, 1) := by decide +kernel
theorem dL_law_192 : decode cL_law 192 = .ok (.iadd, 1) := by decide +kernel
theorem dL_law_193 : decode cL_law 193 = .ok (.iaload, 1) := by decide +kernel
theorem dL_law_194 : decode cL_law 194 = .ok (.aload_n 0, 1) := by decide +kernel
theorem dL_law_195 : decode cL_law 195 = .ok (.iload_n 3, 1) := by decide +kernel
theorem dL_law_196 : decode cL_law 196 = .ok (.iconst 5, 1) := by decide +kernel
theorem dL_law_197 : decode cL_law 197 = .ok (.iadd, 1) := by decide +kernel
theorem dL_law_198 : decode cL_law 198 = .ok (.iaload, 1) := by decide +kernel
theorem dL_law_199 : decode cL_law 199 = .ok (.invokevirtual 17, 3) := by decide +kernel
theorem dL_law_202 : decode cL_law 202 = .ok (.if_icmp .eq 644, 3) := by decide +kernel
theorem dL_law_205 : decode cL_law 205 = .ok (.iconst 0, 1) := by decide +kernel
theorem dL_law_206 : decode cL_law 206 = .ok (.ireturn, 1) := by decide +kernel
theorem dL_law_207 : decode cL_law 207 = .ok (.aload_n 1, 1) := by decide +kernel
theorem dL_law_208 : decode cL_law 208 = .ok (.aload_n 0, 1) := by decide +kernel
theorem dL_law_209 : decode cL_law 209 = .ok (.iload_n 3, 1) := by decide +kernel
theorem dL_law_210 : decode cL_law 210 = .ok (.iconst 1, 1) := by decide +kernel
theorem dL_law_211 : decode cL_law 211 = .ok (.iadd, 1) := by decide +kernel
theorem dL_law_212 : decode cL_law 212 = .ok (.iaload, 1) := by decide +kernel
theorem dL_law_213 : decode cL_law 213 = .ok (.invokevirtual 18, 3) := by decide +kernel
theorem dL_law_216 : decode cL_law 216 = .ok (.aload_n 2, 1) := by decide +kernel
theorem dL_law_217 : decode cL_law 217 = .ok (.aload_n 0, 1) := by decide +kernel
theorem dL_law_218 : decode cL_law 218 = .ok (.iload_n 3, 1) := by decide +kernel
theorem dL_law_219 : decode cL_law 219 = .ok (.iconst 1, 1) := by decide +kernel
theorem dL_law_220 : decode cL_law 220 = .ok (.iadd, 1) := by decide +kernel
theorem dL_law_221 : decode cL_law 221 = .ok (.iaload, 1) := by decide +kernel
theorem dL_law_222 : decode cL_law 222 = .ok (.invokevirtual 22, 3) := by decide +kernel
theorem dL_law_225 : decode cL_law 225 = .ok (.if_icmp .eq 621, 3) := by decide +kernel
theorem dL_law_228 : decode cL_law 228 = .ok (.iconst 0, 1) := by decide +kernel
theorem dL_law_229 : decode cL_law 229 = .ok (.ireturn, 1) := by decide +kernel
theorem dL_law_230 : decode cL_law 230 = .ok (.aload_n 1, 1) := by decide +kernel
theorem dL_law_231 : decode cL_law 231 = .ok (.aload_n 0, 1) := by decide +kernel
theorem dL_law_232 : decode cL_law 232 = .ok (.iload_n 3, 1) := by decide +kernel
theorem dL_law_233 : decode cL_law 233 = .ok (.iconst 1, 1) := by decide +kernel
theorem dL_law_234 : decode cL_law 234 = .ok (.iadd, 1) := by decide +kernel
theorem dL_law_235 : decode cL_law 235 = .ok (.iaload, 1) := by decide +kernel
theorem dL_law_236 : decode cL_law 236 = .ok (.aload_n 0, 1) := by decide +kernel
theorem dL_law_237 : decode cL_law 237 = .ok (.iload_n 3, 1) := by decide +kernel
theorem dL_law_238 : decode cL_law 238 = .ok (.iconst 2, 1) := by decide +kernel
theorem dL_law_239 : decode cL_law 239 = .ok (.iadd, 1) := by decide +kernel
theorem dL_law_240 : decode cL_law 240 = .ok (.iaload, 1) := by decide +kernel
theorem dL_law_241 : decode cL_law 241 = .ok (.aload_n 0, 1) := by decide +kernel
theorem dL_law_242 : decode cL_law 242 = .ok (.iload_n 3, 1) := by decide +kernel
theorem dL_law_243 : decode cL_law 243 = .ok (.iconst 3, 1) := by decide +kernel
theorem dL_law_244 : decode cL_law 244 = .ok (.iadd, 1) := by decide +kernel
theorem dL_law_245 : decode cL_law 245 = .ok (.iaload, 1) := by decide +kernel
theorem dL_law_246 : decode cL_law 246 = .ok (.invokevirtual 23, 3) := by decide +kernel
theorem dL_law_249 : decode cL_law 249 = .ok (.aload_n 2, 1) := by decide +kernel
theorem dL_law_250 : decode cL_law 250 = .ok (.aload_n 0, 1) := by decide +kernel
theorem dL_law_251 : decode cL_law 251 = .ok (.iload_n 3, 1) := by decide +kernel
theorem dL_law_252 : decode cL_law 252 = .ok (.iconst 1, 1) := by decide +kernel
theorem dL_law_253 : decode cL_law 253 = .ok (.iadd, 1) := by decide +kernel
theorem dL_law_254 : decode cL_law 254 = .ok (.iaload, 1) := by decide +kernel
theorem dL_law_255 : decode cL_law 255 = .ok (.aload_n 0, 1) := by decide +kernel
theorem dL_law_256 : decode cL_law 256 = .ok (.iload_n 3, 1) := by decide +kernel
theorem dL_law_257 : decode cL_law 257 = .ok (.iconst 2, 1) := by decide +kernel
theorem dL_law_258 : decode cL_law 258 = .ok (.iadd, 1) := by decide +kernel
theorem dL_law_259 : decode cL_law 259 = .ok (.iaload, 1) := by decide +kernel
theorem dL_law_260 : decode cL_law 260 = .ok (.aload_n 0, 1) := by decide +kernel
theorem dL_law_261 : decode cL_law 261 = .ok (.iload_n 3, 1) := by decide +kernel
theorem dL_law_262 : decode cL_law 262 = .ok (.iconst 3, 1) := by decide +kernel
theorem dL_law_263 : decode cL_law 263 = .ok (.iadd, 1) := by decide +kernel
theorem dL_law_264 : decode cL_law 264 = .ok (.iaload, 1) := by decide +kernel
theorem dL_law_265 : decode cL_law 265 = .ok (.invokevirtual 27, 3) := by decide +kernel
theorem dL_law_268 : decode cL_law 268 = .ok (.if_icmp .eq 578, 3) := by decide +kernel
theorem dL_law_271 : decode cL_law 271 = .ok (.iconst 0, 1) := by decide +kernel
theorem dL_law_272 : decode cL_law 272 = .ok (.ireturn, 1) := by decide +kernel
theorem dL_law_273 : decode cL_law 273 = .ok (.aload_n 1, 1) := by decide +kernel
theorem dL_law_274 : decode cL_law 274 = .ok (.invokevirtual 28, 3) := by decide +kernel
theorem dL_law_277 : decode cL_law 277 = .ok (.aload_n 2, 1) := by decide +kernel
theorem dL_law_278 : decode cL_law 278 = .ok (.invokevirtual 32, 3) := by decide +kernel
theorem dL_law_281 : decode cL_law 281 = .ok (.if_icmp .eq 565, 3) := by decide +kernel
theorem dL_law_284 : decode cL_law 284 = .ok (.iconst 0, 1) := by decide +kernel
theorem dL_law_285 : decode cL_law 285 = .ok (.ireturn, 1) := by decide +kernel
theorem dL_law_286 : decode cL_law 286 = .ok (.aload_n 1, 1) := by decide +kernel
theorem dL_law_287 : decode cL_law 287 = .ok (.aload_n 0, 1) := by decide +kernel
theorem dL_law_288 : decode cL_law 288 = .ok (.iload_n 3, 1) := by decide +kernel
theorem dL_law_289 : decode cL_law 289 = .ok (.iconst 1, 1) := by decide +kernel
theorem dL_law_290 : decode cL_law 290 = .ok (.iadd, 1) := by decide +kernel
theorem dL_law_291 : decode cL_law 291 = .ok (.iaload, 1) := by decide +kernel
theorem dL_law_292 : decode cL_law 292 = .ok (.invokevirtual 33, 3) := by decide +kernel
theorem dL_law_295 : decode cL_law 295 = .ok (.aload_n 2, 1) := by decide +kernel
theorem dL_law_296 : decode cL_law 296 = .ok (.aload_n 0, 1) := by decide +kernel
theorem dL_law_297 : decode cL_law 297 = .ok (.iload_n 3, 1) := by decide +kernel
theorem dL_law_298 : decode cL_law 298 = .ok (.iconst 1, 1) := by decide +kernel
theorem dL_law_299 : decode cL_law 299 = .ok (.iadd, 1) := by decide +kernel
theorem dL_law_300 : decode cL_law 300 = .ok (.iaload, 1) := by decide +kernel
theorem dL_law_301 : decode cL_law 301 = .ok (.invokevirtual 37, 3) := by decide +kernel
theorem dL_law_304 : decode cL_law 304 = .ok (.if_icmp .eq 542, 3) := by decide +kernel
theorem dL_law_307 : decode cL_law 307 = .ok (.iconst 0, 1) := by decide +kernel
theorem dL_law_308 : decode cL_law 308 = .ok (.ireturn, 1) := by decide +kernel
theorem dL_law_309 : decode cL_law 309 = .ok (.aload_n 1, 1) := by decide +kernel
theorem dL_law_310 : decode cL_law 310 = .ok (.aload_n 0, 1) := by decide +kernel
theorem dL_law_311 : decode cL_law 311 = .ok (.iload_n 3, 1) := by decide +kernel
theorem dL_law_312 : decode cL_law 312 = .ok (.iconst 1, 1) := by decide +kernel
theorem dL_law_313 : decode cL_law 313 = .ok (.iadd, 1) := by decide +kernel
theorem dL_law_314 : decode cL_law 314 = .ok (.iaload, 1) := by decide +kernel
theorem dL_law_315 : decode cL_law 315 = .ok (.aload_n 0, 1) := by decide +kernel
theorem dL_law_316 : decode cL_law 316 = .ok (.iload_n 3, 1) := by decide +kernel
theorem dL_law_317 : decode cL_law 317 = .ok (.iconst 2, 1) := by decide +kernel
theorem dL_law_318 : decode cL_law 318 = .ok (.iadd, 1) := by decide +kernel
theorem dL_law_319 : decode cL_law 319 = .ok (.iaload, 1) := by decide +kernel
theorem dL_law_320 : decode cL_law 320 = .ok (.aload_n 0, 1) := by decide +kernel
theorem dL_law_321 : decode cL_law 321 = .ok (.iload_n 3, 1) := by decide +kernel
theorem dL_law_322 : decode cL_law 322 = .ok (.iconst 3, 1) := by decide +kernel
theorem dL_law_323 : decode cL_law 323 = .ok (.iadd, 1) := by decide +kernel
theorem dL_law_324 : decode cL_law 324 = .ok (.iaload, 1) := by decide +kernel
theorem dL_law_325 : decode cL_law 325 = .ok (.invokevirtual 38, 3) := by decide +kernel
theorem dL_law_328 : decode cL_law 328 = .ok (.aload_n 2, 1) := by decide +kernel
theorem dL_law_329 : decode cL_law 329 = .ok (.aload_n 0, 1) := by decide +kernel
theorem dL_law_330 : decode cL_law 330 = .ok (.iload_n 3, 1) := by decide +kernel
theorem dL_law_331 : decode cL_law 331 = .ok (.iconst 1, 1) := by decide +kernel
theorem dL_law_332 : decode cL_law 332 = .ok (.iadd, 1) := by decide +kernel
theorem dL_law_333 : decode cL_law 333 = .ok (.iaload, 1) := by decide +kernel
theorem dL_law_334 : decode cL_law 334 = .ok (.aload_n 0, 1) := by decide +kernel
theorem dL_law_335 : decode cL_law 335 = .ok (.iload_n 3, 1) := by decide +kernel
theorem dL_law_336 : decode cL_law 336 = .ok (.iconst 2, 1) := by decide +kernel
theorem dL_law_337 : decode cL_law 337 = .ok (.iadd, 1) := by decide +kernel
theorem dL_law_338 : decode cL_law 338 = .ok (.iaload, 1) := by decide +kernel
theorem dL_law_339 : decode cL_law 339 = .ok (.aload_n 0, 1) := by decide +kernel
theorem dL_law_340 : decode cL_law 340 = .ok (.iload_n 3, 1) := by decide +kernel
theorem dL_law_341 : decode cL_law 341 = .ok (.iconst 3, 1) := by decide +kernel
theorem dL_law_342 : decode cL_law 342 = .ok (.iadd, 1) := by decide +kernel
theorem dL_law_343 : decode cL_law 343 = .ok (.iaload, 1) := by decide +kernel
theorem dL_law_344 : decode cL_law 344 = .ok (.invokevirtual 41, 3) := by decide +kernel
theorem dL_law_347 : decode cL_law 347 = .ok (.if_icmp .eq 499, 3) := by decide +kernel
theorem dL_law_350 : decode cL_law 350 = .ok (.iconst 0, 1) := by decide +kernel
theorem dL_law_351 : decode cL_law 351 = .ok (.ireturn, 1) := by decide +kernel
theorem dL_law_352 : decode cL_law 352 = .ok (.aload_n 1, 1) := by decide +kernel
theorem dL_law_353 : decode cL_law 353 = .ok (.aload_n 0, 1) := by decide +kernel
theorem dL_law_354 : decode cL_law 354 = .ok (.iload_n 3, 1) := by decide +kernel
theorem dL_law_355 : decode cL_law 355 = .ok (.iconst 1, 1) := by decide +kernel
theorem dL_law_356 : decode cL_law 356 = .ok (.iadd, 1) := by decide +kernel
theorem dL_law_357 : decode cL_law 357 = .ok (.iaload, 1) := by decide +kernel
theorem dL_law_358 : decode cL_law 358 = .ok (.aload_n 0, 1) := by decide +kernel
theorem dL_law_359 : decode cL_law 359 = .ok (.iload_n 3, 1) := by decide +kernel
theorem dL_law_360 : decode cL_law 360 = .ok (.iconst 2, 1) := by decide +kernel
theorem dL_law_361 : decode cL_law 361 = .ok (.iadd, 1) := by decide +kernel
theorem dL_law_362 : decode cL_law 362 = .ok (.iaload, 1) := by decide +kernel
theorem dL_law_363 : decode cL_law 363 = .ok (.invokevirtual 42, 3) := by decide +kernel
theorem dL_law_366 : decode cL_law 366 = .ok (.aload_n 2, 1) := by decide +kernel
theorem dL_law_367 : decode cL_law 367 = .ok (.aload_n 0, 1) := by decide +kernel
theorem dL_law_368 : decode cL_law 368 = .ok (.iload_n 3, 1) := by decide +kernel
theorem dL_law_369 : decode cL_law 369 = .ok (.iconst 1, 1) := by decide +kernel
theorem dL_law_370 : decode cL_law 370 = .ok (.iadd, 1) := by decide +kernel
theorem dL_law_371 : decode cL_law 371 = .ok (.iaload, 1) := by decide +kernel
theorem dL_law_372 : decode cL_law 372 = .ok (.aload_n 0, 1) := by decide +kernel
theorem dL_law_373 : decode cL_law 373 = .ok (.iload_n 3, 1) := by decide +kernel
theorem dL_law_374 : decode cL_law 374 = .ok (.iconst 2, 1) := by decide +kernel
theorem dL_law_375 : decode cL_law 375 = .ok (.iadd, 1) := by decide +kernel
theorem dL_law_376 : decode cL_law 376 = .ok (.iaload, 1) := by decide +kernel
theorem dL_law_377 : decode cL_law 377 = .ok (.invokevirtual 46, 3) := by decide +kernel
theorem dL_law_380 : decode cL_law 380 = .ok (.if_icmp .eq 466, 3) := by decide +kernel
theorem dL_law_383 : decode cL_law 383 = .ok (.iconst 0, 1) := by decide +kernel
theorem dL_law_384 : decode cL_law 384 = .ok (.ireturn, 1) := by decide +kernel
theorem dL_law_385 : decode cL_law 385 = .ok (.aload_n 1, 1) := by decide +kernel
theorem dL_law_386 : decode cL_law 386 = .ok (.invokevirtual 47, 3) := by decide +kernel
theorem dL_law_389 : decode cL_law 389 = .ok (.aload_n 2, 1) := by decide +kernel
theorem dL_law_390 : decode cL_law 390 = .ok (.invokevirtual 50, 3) := by decide +kernel
theorem dL_law_393 : decode cL_law 393 = .ok (.if_icmp .eq 453, 3) := by decide +kernel
theorem dL_law_396 : decode cL_law 396 = .ok (.iconst 0, 1) := by decide +kernel
theorem dL_law_397 : decode cL_law 397 = .ok (.ireturn, 1) := by decide +kernel
theorem dL_law_398 : decode cL_law 398 = .ok (.aload_n 1, 1) := by decide +kernel
theorem dL_law_399 : decode cL_law 399 = .ok (.aload_n 0, 1) := by decide +kernel
theorem dL_law_400 : decode cL_law 400 = .ok (.iload_n 3, 1) := by decide +kernel
theorem dL_law_401 : decode cL_law 401 = .ok (.iconst 1, 1) := by decide +kernel
theorem dL_law_402 : decode cL_law 402 = .ok (.iadd, 1) := by decide +kernel
theorem dL_law_403 : decode cL_law 403 = .ok (.iaload, 1) := by decide +kernel
theorem dL_law_404 : decode cL_law 404 = .ok (.invokevirtual 51, 3) := by decide +kernel
theorem dL_law_407 : decode cL_law 407 = .ok (.aload_n 2, 1) := by decide +kernel
theorem dL_law_408 : decode cL_law 408 = .ok (.aload_n 0, 1) := by decide +kernel
theorem dL_law_409 : decode cL_law 409 = .ok (.iload_n 3, 1) := by decide +kernel
theorem dL_law_410 : decode cL_law 410 = .ok (.iconst 1, 1) := by decide +kernel
theorem dL_law_411 : decode cL_law 411 = .ok (.iadd, 1) := by decide +kernel
theorem dL_law_412 : decode cL_law 412 = .ok (.iaload, 1) := by decide +kernel
theorem dL_law_413 : decode cL_law 413 = .ok (.invokevirtual 54, 3) := by decide +kernel
theorem dL_law_416 : decode cL_law 416 = .ok (.if_icmp .eq 430, 3) := by decide +kernel
theorem dL_law_419 : decode cL_law 419 = .ok (.iconst 0, 1) := by decide +kernel
theorem dL_law_420 : decode cL_law 420 = .ok (.ireturn, 1) := by decide +kernel
theorem dL_law_421 : decode cL_law 421 = .ok (.aload_n 1, 1) := by decide +kernel
theorem dL_law_422 : decode cL_law 422 = .ok (.aload_n 0, 1) := by decide +kernel
theorem dL_law_423 : decode cL_law 423 = .ok (.iload_n 3, 1) := by decide +kernel
theorem dL_law_424 : decode cL_law 424 = .ok (.iconst 1, 1) := by decide +kernel
theorem dL_law_425 : decode cL_law 425 = .ok (.iadd, 1) := by decide +kernel
theorem dL_law_426 : decode cL_law 426 = .ok (.iaload, 1) := by decide +kernel
theorem dL_law_427 : decode cL_law 427 = .ok (.aload_n 0, 1) := by decide +kernel
theorem dL_law_428 : decode cL_law 428 = .ok (.iload_n 3, 1) := by decide +kernel
theorem dL_law_429 : decode cL_law 429 = .ok (.iconst 2, 1) := by decide +kernel
theorem dL_law_430 : decode cL_law 430 = .ok (.iadd, 1) := by decide +kernel
theorem dL_law_431 : decode cL_law 431 = .ok (.iaload, 1) := by decide +kernel
theorem dL_law_432 : decode cL_law 432 = .ok (.invokevirtual 55, 3) := by decide +kernel
theorem dL_law_435 : decode cL_law 435 = .ok (.aload_n 2, 1) := by decide +kernel
theorem dL_law_436 : decode cL_law 436 = .ok (.aload_n 0, 1) := by decide +kernel
theorem dL_law_437 : decode cL_law 437 = .ok (.iload_n 3, 1) := by decide +kernel
theorem dL_law_438 : decode cL_law 438 = .ok (.iconst 1, 1) := by decide +kernel
theorem dL_law_439 : decode cL_law 439 = .ok (.iadd, 1) := by decide +kernel
theorem dL_law_440 : decode cL_law 440 = .ok (.iaload, 1) := by decide +kernel
theorem dL_law_441 : decode cL_law 441 = .ok (.aload_n 0, 1) := by decide +kernel
theorem dL_law_442 : decode cL_law 442 = .ok (.iload_n 3, 1) := by decide +kernel
theorem dL_law_443 : decode cL_law 443 = .ok (.iconst 2, 1) := by decide +kernel
theorem dL_law_444 : decode cL_law 444 = .ok (.iadd, 1) := by decide +kernel
theorem dL_law_445 : decode cL_law 445 = .ok (.iaload, 1) := by decide +kernel
theorem dL_law_446 : decode cL_law 446 = .ok (.invokevirtual 59, 3) := by decide +kernel
theorem dL_law_449 : decode cL_law 449 = .ok (.if_icmp .eq 397, 3) := by decide +kernel
theorem dL_law_452 : decode cL_law 452 = .ok (.iconst 0, 1) := by decide +kernel
theorem dL_law_453 : decode cL_law 453 = .ok (.ireturn, 1) := by decide +kernel
theorem dL_law_454 : decode cL_law 454 = .ok (.aload_n 1, 1) := by decide +kernel
theorem dL_law_455 : decode cL_law 455 = .ok (.aload_n 0, 1) := by decide +kernel
theorem dL_law_456 : decode cL_law 456 = .ok (.iload_n 3, 1) := by decide +kernel
theorem dL_law_457 : decode cL_law 457 = .ok (.iconst 1, 1) := by decide +kernel
theorem dL_law_458 : decode cL_law 458 = .ok (.iadd, 1) := by decide +kernel
theorem dL_law_459 : decode cL_law 459 = .ok (.iaload, 1) := by decide +kernel
theorem dL_law_460 : decode cL_law 460 = .ok (.aload_n 0, 1) := by decide +kernel
theorem dL_law_461 : decode cL_law 461 = .ok (.iload_n 3, 1) := by decide +kernel
theorem dL_law_462 : decode cL_law 462 = .ok (.iconst 2, 1) := by decide +kernel
theorem dL_law_463 : decode cL_law 463 = .ok (.iadd, 1) := by decide +kernel
theorem dL_law_464 : decode cL_law 464 = .ok (.iaload, 1) := by decide +kernel
theorem dL_law_465 : decode cL_law 465 = .ok (.invokevirtual 60, 3) := by decide +kernel
theorem dL_law_468 : decode cL_law 468 = .ok (.aload_n 2, 1) := by decide +kernel
theorem dL_law_469 : decode cL_law 469 = .ok (.aload_n 0, 1) := by decide +kernel
theorem dL_law_470 : decode cL_law 470 = .ok (.iload_n 3, 1) := by decide +kernel
theorem dL_law_471 : decode cL_law 471 = .ok (.iconst 1, 1) := by decide +kernel
theorem dL_law_472 : decode cL_law 472 = .ok (.iadd, 1) := by decide +kernel
theorem dL_law_473 : decode cL_law 473 = .ok (.iaload, 1) := by decide +kernel
theorem dL_law_474 : decode cL_law 474 = .ok (.aload_n 0, 1) := by decide +kernel
theorem dL_law_475 : decode cL_law 475 = .ok (.iload_n 3, 1) := by decide +kernel
theorem dL_law_476 : decode cL_law 476 = .ok (.iconst 2, 1) := by decide +kernel
theorem dL_law_477 : decode cL_law 477 = .ok (.iadd, 1) := by decide +kernel
theorem dL_law_478 : decode cL_law 478 = .ok (.iaload, 1) := by decide +kernel
theorem dL_law_479 : decode cL_law 479 = .ok (.invokevirtual 63, 3) := by decide +kernel
theorem dL_law_482 : decode cL_law 482 = .ok (.if_icmp .eq 364, 3) := by decide +kernel
theorem dL_law_485 : decode cL_law 485 = .ok (.iconst 0, 1) := by decide +kernel
theorem dL_law_486 : decode cL_law 486 = .ok (.ireturn, 1) := by decide +kernel
theorem dL_law_487 : decode cL_law 487 = .ok (.aload_n 1, 1) := by decide +kernel
theorem dL_law_488 : decode cL_law 488 = .ok (.aload_n 0, 1) := by decide +kernel
theorem dL_law_489 : decode cL_law 489 = .ok (.iload_n 3, 1) := by decide +kernel
theorem dL_law_490 : decode cL_law 490 = .ok (.iconst 1, 1) := by decide +kernel
theorem dL_law_491 : decode cL_law 491 = .ok (.iadd, 1) := by decide +kernel
theorem dL_law_492 : decode cL_law 492 = .ok (.iaload, 1) := by decide +kernel
theorem dL_law_493 : decode cL_law 493 = .ok (.aload_n 0, 1) := by decide +kernel
theorem dL_law_494 : decode cL_law 494 = .ok (.iload_n 3, 1) := by decide +kernel
theorem dL_law_495 : decode cL_law 495 = .ok (.iconst 2, 1) := by decide +kernel
theorem dL_law_496 : decode cL_law 496 = .ok (.iadd, 1) := by decide +kernel
theorem dL_law_497 : decode cL_law 497 = .ok (.iaload, 1) := by decide +kernel
theorem dL_law_498 : decode cL_law 498 = .ok (.invokevirtual 64, 3) := by decide +kernel
theorem dL_law_501 : decode cL_law 501 = .ok (.aload_n 2, 1) := by decide +kernel
theorem dL_law_502 : decode cL_law 502 = .ok (.aload_n 0, 1) := by decide +kernel
theorem dL_law_503 : decode cL_law 503 = .ok (.iload_n 3, 1) := by decide +kernel
theorem dL_law_504 : decode cL_law 504 = .ok (.iconst 1, 1) := by decide +kernel
theorem dL_law_505 : decode cL_law 505 = .ok (.iadd, 1) := by decide +kernel
theorem dL_law_506 : decode cL_law 506 = .ok (.iaload, 1) := by decide +kernel
theorem dL_law_507 : decode cL_law 507 = .ok (.aload_n 0, 1) := by decide +kernel
theorem dL_law_508 : decode cL_law 508 = .ok (.iload_n 3, 1) := by decide +kernel
theorem dL_law_509 : decode cL_law 509 = .ok (.iconst 2, 1) := by decide +kernel
theorem dL_law_510 : decode cL_law 510 = .ok (.iadd, 1) := by decide +kernel
theorem dL_law_511 : decode cL_law 511 = .ok (.iaload, 1) := by decide +kernel
theorem dL_law_512 : decode cL_law 512 = .ok (.invokevirtual 67, 3) := by decide +kernel
theorem dL_law_515 : decode cL_law 515 = .ok (.if_icmp .eq 331, 3) := by decide +kernel
theorem dL_law_518 : decode cL_law 518 = .ok (.iconst 0, 1) := by decide +kernel
theorem dL_law_519 : decode cL_law 519 = .ok (.ireturn, 1) := by decide +kernel
theorem dL_law_520 : decode cL_law 520 = .ok (.aload_n 1, 1) := by decide +kernel
theorem dL_law_521 : decode cL_law 521 = .ok (.aload_n 0, 1) := by decide +kernel
theorem dL_law_522 : decode cL_law 522 = .ok (.iload_n 3, 1) := by decide +kernel
theorem dL_law_523 : decode cL_law 523 = .ok (.iconst 1, 1) := by decide +kernel
theorem dL_law_524 : decode cL_law 524 = .ok (.iadd, 1) := by decide +kernel
theorem dL_law_525 : decode cL_law 525 = .ok (.iaload, 1) := by decide +kernel
theorem dL_law_526 : decode cL_law 526 = .ok (.invokevirtual 68, 3) := by decide +kernel
theorem dL_law_529 : decode cL_law 529 = .ok (.aload_n 2, 1) := by decide +kernel
theorem dL_law_530 : decode cL_law 530 = .ok (.aload_n 0, 1) := by decide +kernel
theorem dL_law_531 : decode cL_law 531 = .ok (.iload_n 3, 1) := by decide +kernel
theorem dL_law_532 : decode cL_law 532 = .ok (.iconst 1, 1) := by decide +kernel
theorem dL_law_533 : decode cL_law 533 = .ok (.iadd, 1) := by decide +kernel
theorem dL_law_534 : decode cL_law 534 = .ok (.iaload, 1) := by decide +kernel
theorem dL_law_535 : decode cL_law 535 = .ok (.invokevirtual 71, 3) := by decide +kernel
theorem dL_law_538 : decode cL_law 538 = .ok (.if_icmp .eq 308, 3) := by decide +kernel
theorem dL_law_541 : decode cL_law 541 = .ok (.iconst 0, 1) := by decide +kernel
theorem dL_law_542 : decode cL_law 542 = .ok (.ireturn, 1) := by decide +kernel
theorem dL_law_543 : decode cL_law 543 = .ok (.aload_n 1, 1) := by decide +kernel
theorem dL_law_544 : decode cL_law 544 = .ok (.aload_n 0, 1) := by decide +kernel
theorem dL_law_545 : decode cL_law 545 = .ok (.iload_n 3, 1) := by decide +kernel
theorem dL_law_546 : decode cL_law 546 = .ok (.iconst 1, 1) := by decide +kernel
theorem dL_law_547 : decode cL_law 547 = .ok (.iadd, 1) := by decide +kernel
theorem dL_law_548 : decode cL_law 548 = .ok (.iaload, 1) := by decide +kernel
theorem dL_law_549 : decode cL_law 549 = .ok (.aload_n 0, 1) := by decide +kernel
theorem dL_law_550 : decode cL_law 550 = .ok (.iload_n 3, 1) := by decide +kernel
theorem dL_law_551 : decode cL_law 551 = .ok (.iconst 2, 1) := by decide +kernel
theorem dL_law_552 : decode cL_law 552 = .ok (.iadd, 1) := by decide +kernel
theorem dL_law_553 : decode cL_law 553 = .ok (.iaload, 1) := by decide +kernel
theorem dL_law_554 : decode cL_law 554 = .ok (.invokevirtual 72, 3) := by decide +kernel
theorem dL_law_557 : decode cL_law 557 = .ok (.aload_n 2, 1) := by decide +kernel
theorem dL_law_558 : decode cL_law 558 = .ok (.aload_n 0, 1) := by decide +kernel
theorem dL_law_559 : decode cL_law 559 = .ok (.iload_n 3, 1) := by decide +kernel
theorem dL_law_560 : decode cL_law 560 = .ok (.iconst 1, 1) := by decide +kernel
theorem dL_law_561 : decode cL_law 561 = .ok (.iadd, 1) := by decide +kernel
theorem dL_law_562 : decode cL_law 562 = .ok (.iaload, 1) := by decide +kernel
theorem dL_law_563 : decode cL_law 563 = .ok (.aload_n 0, 1) := by decide +kernel
theorem dL_law_564 : decode cL_law 564 = .ok (.iload_n 3, 1) := by decide +kernel
theorem dL_law_565 : decode cL_law 565 = .ok (.iconst 2, 1) := by decide +kernel
theorem dL_law_566 : decode cL_law 566 = .ok (.iadd, 1) := by decide +kernel
theorem dL_law_567 : decode cL_law 567 = .ok (.iaload, 1) := by decide +kernel
theorem dL_law_568 : decode cL_law 568 = .ok (.invokevirtual 75, 3) := by decide +kernel
theorem dL_law_571 : decode cL_law 571 = .ok (.if_icmp .eq 275, 3) := by decide +kernel
theorem dL_law_574 : decode cL_law 574 = .ok (.iconst 0, 1) := by decide +kernel
theorem dL_law_575 : decode cL_law 575 = .ok (.ireturn, 1) := by decide +kernel
theorem dL_law_576 : decode cL_law 576 = .ok (.aload_n 1, 1) := by decide +kernel
theorem dL_law_577 : decode cL_law 577 = .ok (.aload_n 0, 1) := by decide +kernel
theorem dL_law_578 : decode cL_law 578 = .ok (.iload_n 3, 1) := by decide +kernel
theorem dL_law_579 : decode cL_law 579 = .ok (.iconst 1, 1) := by decide +kernel
theorem dL_law_580 : decode cL_law 580 = .ok (.iadd, 1) := by decide +kernel
theorem dL_law_581 : decode cL_law 581 = .ok (.iaload, 1) := by decide +kernel
theorem dL_law_582 : decode cL_law 582 = .ok (.aload_n 0, 1) := by decide +kernel
theorem dL_law_583 : decode cL_law 583 = .ok (.iload_n 3, 1) := by decide +kernel
theorem dL_law_584 : decode cL_law 584 = .ok (.iconst 2, 1) := by decide +kernel
theorem dL_law_585 : decode cL_law 585 = .ok (.iadd, 1) := by decide +kernel
theorem dL_law_586 : decode cL_law 586 = .ok (.iaload, 1) := by decide +kernel
theorem dL_law_587 : decode cL_law 587 = .ok (.invokevirtual 76, 3) := by decide +kernel
theorem dL_law_590 : decode cL_law 590 = .ok (.aload_n 2, 1) := by decide +kernel
theorem dL_law_591 : decode cL_law 591 = .ok (.aload_n 0, 1) := by decide +kernel
theorem dL_law_592 : decode cL_law 592 = .ok (.iload_n 3, 1) := by decide +kernel
theorem dL_law_593 : decode cL_law 593 = .ok (.iconst 1, 1) := by decide +kernel
theorem dL_law_594 : decode cL_law 594 = .ok (.iadd, 1) := by decide +kernel
theorem dL_law_595 : decode cL_law 595 = .ok (.iaload, 1) := by decide +kernel
theorem dL_law_596 : decode cL_law 596 = .ok (.aload_n 0, 1) := by decide +kernel
theorem dL_law_597 : decode cL_law 597 = .ok (.iload_n 3, 1) := by decide +kernel
theorem dL_law_598 : decode cL_law 598 = .ok (.iconst 2, 1) := by decide +kernel
theorem dL_law_599 : decode cL_law 599 = .ok (.iadd, 1) := by decide +kernel
theorem dL_law_600 : decode cL_law 600 = .ok (.iaload, 1) := by decide +kernel
theorem dL_law_601 : decode cL_law 601 = .ok (.invokevirtual 79, 3) := by decide +kernel
theorem dL_law_604 : decode cL_law 604 = .ok (.if_icmp .eq 242, 3) := by decide +kernel
theorem dL_law_607 : decode cL_law 607 = .ok (.iconst 0, 1) := by decide +kernel
theorem dL_law_608 : decode cL_law 608 = .ok (.ireturn, 1) := by decide +kernel
theorem dL_law_609 : decode cL_law 609 = .ok (.aload_n 1, 1) := by decide +kernel
theorem dL_law_610 : decode cL_law 610 = .ok (.aload_n 0, 1) := by decide +kernel
theorem dL_law_611 : decode cL_law 611 = .ok (.iload_n 3, 1) := by decide +kernel
theorem dL_law_612 : decode cL_law 612 = .ok (.iconst 1, 1) := by decide +kernel
theorem dL_law_613 : decode cL_law 613 = .ok (.iadd, 1) := by decide +kernel
theorem dL_law_614 : decode cL_law 614 = .ok (.iaload, 1) := by decide +kernel
theorem dL_law_615 : decode cL_law 615 = .ok (.invokevirtual 80, 3) := by decide +kernel
theorem dL_law_618 : decode cL_law 618 = .ok (.aload_n 2, 1) := by decide +kernel
theorem dL_law_619 : decode cL_law 619 = .ok (.aload_n 0, 1) := by decide +kernel
theorem dL_law_620 : decode cL_law 620 = .ok (.iload_n 3, 1) := by decide +kernel
theorem dL_law_621 : decode cL_law 621 = .ok (.iconst 1, 1) := by decide +kernel
theorem dL_law_622 : decode cL_law 622 = .ok (.iadd, 1) := by decide +kernel
theorem dL_law_623 : decode cL_law 623 = .ok (.iaload, 1) := by decide +kernel
theorem dL_law_624 : decode cL_law 624 = .ok (.invokevirtual 83, 3) := by decide +kernel
theorem dL_law_627 : decode cL_law 627 = .ok (.if_icmp .eq 219, 3) := by decide +kernel
theorem dL_law_630 : decode cL_law 630 = .ok (.iconst 0, 1) := by decide +kernel
theorem dL_law_631 : decode cL_law 631 = .ok (.ireturn, 1) := by decide +kernel
theorem dL_law_632 : decode cL_law 632 = .ok (.aload_n 1, 1) := by decide +kernel
theorem dL_law_633 : decode cL_law 633 = .ok (.aload_n 0, 1) := by decide +kernel
theorem dL_law_634 : decode cL_law 634 = .ok (.iload_n 3, 1) := by decide +kernel
theorem dL_law_635 : decode cL_law 635 = .ok (.iconst 1, 1) := by decide +kernel
theorem dL_law_636 : decode cL_law 636 = .ok (.iadd, 1) := by decide +kernel
theorem dL_law_637 : decode cL_law 637 = .ok (.iaload, 1) := by decide +kernel
theorem dL_law_638 : decode cL_law 638 = .ok (.aload_n 0, 1) := by decide +kernel
theorem dL_law_639 : decode cL_law 639 = .ok (.iload_n 3, 1) := by decide +kernel
theorem dL_law_640 : decode cL_law 640 = .ok (.iconst 2, 1) := by decide +kernel
theorem dL_law_641 : decode cL_law 641 = .ok (.iadd, 1) := by decide +kernel
theorem dL_law_642 : decode cL_law 642 = .ok (.iaload, 1) := by decide +kernel
theorem dL_law_643 : decode cL_law 643 = .ok (.aload_n 0, 1) := by decide +kernel
theorem dL_law_644 : decode cL_law 644 = .ok (.iload_n 3, 1) := by decide +kernel
theorem dL_law_645 : decode cL_law 645 = .ok (.iconst 3, 1) := by decide +kernel
theorem dL_law_646 : decode cL_law 646 = .ok (.iadd, 1) := by decide +kernel
theorem dL_law_647 : decode cL_law 647 = .ok (.iaload, 1) := by decide +kernel
theorem dL_law_648 : decode cL_law 648 = .ok (.invokevirtual 84, 3) := by decide +kernel
theorem dL_law_651 : decode cL_law 651 = .ok (.aload_n 2, 1) := by decide +kernel
theorem dL_law_652 : decode cL_law 652 = .ok (.aload_n 0, 1) := by decide +kernel
theorem dL_law_653 : decode cL_law 653 = .ok (.iload_n 3, 1) := by decide +kernel
theorem dL_law_654 : decode cL_law 654 = .ok (.iconst 1, 1) := by decide +kernel
theorem dL_law_655 : decode cL_law 655 = .ok (.iadd, 1) := by decide +kernel
theorem dL_law_656 : decode cL_law 656 = .ok (.iaload, 1) := by decide +kernel
theorem dL_law_657 : decode cL_law 657 = .ok (.aload_n 0, 1) := by decide +kernel
theorem dL_law_658 : decode cL_law 658 = .ok (.iload_n 3, 1) := by decide +kernel
theorem dL_law_659 : decode cL_law 659 = .ok (.iconst 2, 1) := by decide +kernel
theorem dL_law_660 : decode cL_law 660 = .ok (.iadd, 1) := by decide +kernel
theorem dL_law_661 : decode cL_law 661 = .ok (.iaload, 1) := by decide +kernel
theorem dL_law_662 : decode cL_law 662 = .ok (.aload_n 0, 1) := by decide +kernel
theorem dL_law_663 : decode cL_law 663 = .ok (.iload_n 3, 1) := by decide +kernel
theorem dL_law_664 : decode cL_law 664 = .ok (.iconst 3, 1) := by decide +kernel
theorem dL_law_665 : decode cL_law 665 = .ok (.iadd, 1) := by decide +kernel
theorem dL_law_666 : decode cL_law 666 = .ok (.iaload, 1) := by decide +kernel
theorem dL_law_667 : decode cL_law 667 = .ok (.invokevirtual 87, 3) := by decide +kernel
theorem dL_law_670 : decode cL_law 670 = .ok (.if_icmp .eq 176, 3) := by decide +kernel
theorem dL_law_673 : decode cL_law 673 = .ok (.iconst 0, 1) := by decide +kernel
theorem dL_law_674 : decode cL_law 674 = .ok (.ireturn, 1) := by decide +kernel
theorem dL_law_675 : decode cL_law 675 = .ok (.aload_n 1, 1) := by decide +kernel
theorem dL_law_676 : decode cL_law 676 = .ok (.invokevirtual 88, 3) := by decide +kernel
theorem dL_law_679 : decode cL_law 679 = .ok (.aload_n 2, 1) := by decide +kernel
theorem dL_law_680 : decode cL_law 680 = .ok (.invokevirtual 91, 3) := by decide +kernel
theorem dL_law_683 : decode cL_law 683 = .ok (.if_icmp .eq 163, 3) := by decide +kernel
theorem dL_law_686 : decode cL_law 686 = .ok (.iconst 0, 1) := by decide +kernel
theorem dL_law_687 : decode cL_law 687 = .ok (.ireturn, 1) := by decide +kernel
theorem dL_law_688 : decode cL_law 688 = .ok (.aload_n 1, 1) := by decide +kernel
theorem dL_law_689 : decode cL_law 689 = .ok (.aload_n 0, 1) := by decide +kernel
theorem dL_law_690 : decode cL_law 690 = .ok (.iload_n 3, 1) := by decide +kernel
theorem dL_law_691 : decode cL_law 691 = .ok (.iconst 1, 1) := by decide +kernel
theorem dL_law_692 : decode cL_law 692 = .ok (.iadd, 1) := by decide +kernel
theorem dL_law_693 : decode cL_law 693 = .ok (.iaload, 1) := by decide +kernel
theorem dL_law_694 : decode cL_law 694 = .ok (.invokevirtual 92, 3) := by decide +kernel
theorem dL_law_697 : decode cL_law 697 = .ok (.aload_n 2, 1) := by decide +kernel
theorem dL_law_698 : decode cL_law 698 = .ok (.aload_n 0, 1) := by decide +kernel
theorem dL_law_699 : decode cL_law 699 = .ok (.iload_n 3, 1) := by decide +kernel
theorem dL_law_700 : decode cL_law 700 = .ok (.iconst 1, 1) := by decide +kernel
theorem dL_law_701 : decode cL_law 701 = .ok (.iadd, 1) := by decide +kernel
theorem dL_law_702 : decode cL_law 702 = .ok (.iaload, 1) := by decide +kernel
theorem dL_law_703 : decode cL_law 703 = .ok (.invokevirtual 95, 3) := by decide +kernel
theorem dL_law_706 : decode cL_law 706 = .ok (.if_icmp .eq 140, 3) := by decide +kernel
theorem dL_law_709 : decode cL_law 709 = .ok (.iconst 0, 1) := by decide +kernel
theorem dL_law_710 : decode cL_law 710 = .ok (.ireturn, 1) := by decide +kernel
theorem dL_law_711 : decode cL_law 711 = .ok (.aload_n 1, 1) := by decide +kernel
theorem dL_law_712 : decode cL_law 712 = .ok (.aload_n 0, 1) := by decide +kernel
theorem dL_law_713 : decode cL_law 713 = .ok (.iload_n 3, 1) := by decide +kernel
theorem dL_law_714 : decode cL_law 714 = .ok (.iconst 1, 1) := by decide +kernel
theorem dL_law_715 : decode cL_law 715 = .ok (.iadd, 1) := by decide +kernel
theorem dL_law_716 : decode cL_law 716 = .ok (.iaload, 1) := by decide +kernel
theorem dL_law_717 : decode cL_law 717 = .ok (.aload_n 0, 1) := by decide +kernel
theorem dL_law_718 : decode cL_law 718 = .ok (.iload_n 3, 1) := by decide +kernel
theorem dL_law_719 : decode cL_law 719 = .ok (.iconst 2, 1) := by decide +kernel
theorem dL_law_720 : decode cL_law 720 = .ok (.iadd, 1) := by decide +kernel
theorem dL_law_721 : decode cL_law 721 = .ok (.iaload, 1) := by decide +kernel
theorem dL_law_722 : decode cL_law 722 = .ok (.invokevirtual 96, 3) := by decide +kernel
theorem dL_law_725 : decode cL_law 725 = .ok (.aload_n 2, 1) := by decide +kernel
theorem dL_law_726 : decode cL_law 726 = .ok (.aload_n 0, 1) := by decide +kernel
theorem dL_law_727 : decode cL_law 727 = .ok (.iload_n 3, 1) := by decide +kernel
theorem dL_law_728 : decode cL_law 728 = .ok (.iconst 1, 1) := by decide +kernel
theorem dL_law_729 : decode cL_law 729 = .ok (.iadd, 1) := by decide +kernel
theorem dL_law_730 : decode cL_law 730 = .ok (.iaload, 1) := by decide +kernel
theorem dL_law_731 : decode cL_law 731 = .ok (.aload_n 0, 1) := by decide +kernel
theorem dL_law_732 : decode cL_law 732 = .ok (.iload_n 3, 1) := by decide +kernel
theorem dL_law_733 : decode cL_law 733 = .ok (.iconst 2, 1) := by decide +kernel
theorem dL_law_734 : decode cL_law 734 = .ok (.iadd, 1) := by decide +kernel
theorem dL_law_735 : decode cL_law 735 = .ok (.iaload, 1) := by decide +kernel
theorem dL_law_736 : decode cL_law 736 = .ok (.invokevirtual 99, 3) := by decide +kernel
theorem dL_law_739 : decode cL_law 739 = .ok (.if_icmp .eq 107, 3) := by decide +kernel
theorem dL_law_742 : decode cL_law 742 = .ok (.iconst 0, 1) := by decide +kernel
theorem dL_law_743 : decode cL_law 743 = .ok (.ireturn, 1) := by decide +kernel
theorem dL_law_744 : decode cL_law 744 = .ok (.aload_n 1, 1) := by decide +kernel
theorem dL_law_745 : decode cL_law 745 = .ok (.invokevirtual 100, 3) := by decide +kernel
theorem dL_law_748 : decode cL_law 748 = .ok (.aload_n 2, 1) := by decide +kernel
theorem dL_law_749 : decode cL_law 749 = .ok (.invokevirtual 103, 3) := by decide +kernel
theorem dL_law_752 : decode cL_law 752 = .ok (.if_icmp .eq 94, 3) := by decide +kernel
theorem dL_law_755 : decode cL_law 755 = .ok (.iconst 0, 1) := by decide +kernel
theorem dL_law_756 : decode cL_law 756 = .ok (.ireturn, 1) := by decide +kernel
theorem dL_law_757 : decode cL_law 757 = .ok (.aload_n 1, 1) := by decide +kernel
theorem dL_law_758 : decode cL_law 758 = .ok (.aload_n 0, 1) := by decide +kernel
theorem dL_law_759 : decode cL_law 759 = .ok (.iload_n 3, 1) := by decide +kernel
theorem dL_law_760 : decode cL_law 760 = .ok (.iconst 1, 1) := by decide +kernel
theorem dL_law_761 : decode cL_law 761 = .ok (.iadd, 1) := by decide +kernel
theorem dL_law_762 : decode cL_law 762 = .ok (.iaload, 1) := by decide +kernel
theorem dL_law_763 : decode cL_law 763 = .ok (.invokevirtual 104, 3) := by decide +kernel
theorem dL_law_766 : decode cL_law 766 = .ok (.aload_n 2, 1) := by decide +kernel
theorem dL_law_767 : decode cL_law 767 = .ok (.aload_n 0, 1) := by decide +kernel
theorem dL_law_768 : decode cL_law 768 = .ok (.iload_n 3, 1) := by decide +kernel
theorem dL_law_769 : decode cL_law 769 = .ok (.iconst 1, 1) := by decide +kernel
theorem dL_law_770 : decode cL_law 770 = .ok (.iadd, 1) := by decide +kernel
theorem dL_law_771 : decode cL_law 771 = .ok (.iaload, 1) := by decide +kernel
theorem dL_law_772 : decode cL_law 772 = .ok (.invokevirtual 107, 3) := by decide +kernel
theorem dL_law_775 : decode cL_law 775 = .ok (.if_icmp .eq 71, 3) := by decide +kernel
theorem dL_law_778 : decode cL_law 778 = .ok (.iconst 0, 1) := by decide +kernel
theorem dL_law_779 : decode cL_law 779 = .ok (.ireturn, 1) := by decide +kernel
theorem dL_law_780 : decode cL_law 780 = .ok (.aload_n 1, 1) := by decide +kernel
theorem dL_law_781 : decode cL_law 781 = .ok (.aload_n 0, 1) := by decide +kernel
theorem dL_law_782 : decode cL_law 782 = .ok (.iload_n 3, 1) := by decide +kernel
theorem dL_law_783 : decode cL_law 783 = .ok (.iconst 1, 1) := by decide +kernel
theorem dL_law_784 : decode cL_law 784 = .ok (.iadd, 1) := by decide +kernel
theorem dL_law_785 : decode cL_law 785 = .ok (.iaload, 1) := by decide +kernel
theorem dL_law_786 : decode cL_law 786 = .ok (.aload_n 0, 1) := by decide +kernel
theorem dL_law_787 : decode cL_law 787 = .ok (.iload_n 3, 1) := by decide +kernel
theorem dL_law_788 : decode cL_law 788 = .ok (.iconst 2, 1) := by decide +kernel
theorem dL_law_789 : decode cL_law 789 = .ok (.iadd, 1) := by decide +kernel
theorem dL_law_790 : decode cL_law 790 = .ok (.iaload, 1) := by decide +kernel
theorem dL_law_791 : decode cL_law 791 = .ok (.aload_n 0, 1) := by decide +kernel
theorem dL_law_792 : decode cL_law 792 = .ok (.iload_n 3, 1) := by decide +kernel
theorem dL_law_793 : decode cL_law 793 = .ok (.iconst 3, 1) := by decide +kernel
theorem dL_law_794 : decode cL_law 794 = .ok (.iadd, 1) := by decide +kernel
theorem dL_law_795 : decode cL_law 795 = .ok (.iaload, 1) := by decide +kernel
theorem dL_law_796 : decode cL_law 796 = .ok (.invokevirtual 108, 3) := by decide +kernel
theorem dL_law_799 : decode cL_law 799 = .ok (.aload_n 2, 1) := by decide +kernel
theorem dL_law_800 : decode cL_law 800 = .ok (.aload_n 0, 1) := by decide +kernel
theorem dL_law_801 : decode cL_law 801 = .ok (.iload_n 3, 1) := by decide +kernel
theorem dL_law_802 : decode cL_law 802 = .ok (.iconst 1, 1) := by decide +kernel
theorem dL_law_803 : decode cL_law 803 = .ok (.iadd, 1) := by decide +kernel
theorem dL_law_804 : decode cL_law 804 = .ok (.iaload, 1) := by decide +kernel
theorem dL_law_805 : decode cL_law 805 = .ok (.aload_n 0, 1) := by decide +kernel
theorem dL_law_806 : decode cL_law 806 = .ok (.iload_n 3, 1) := by decide +kernel
theorem dL_law_807 : decode cL_law 807 = .ok (.iconst 2, 1) := by decide +kernel
theorem dL_law_808 : decode cL_law 808 = .ok (.iadd, 1) := by decide +kernel
theorem dL_law_809 : decode cL_law 809 = .ok (.iaload, 1) := by decide +kernel
theorem dL_law_810 : decode cL_law 810 = .ok (.aload_n 0, 1) := by decide +kernel
theorem dL_law_811 : decode cL_law 811 = .ok (.iload_n 3, 1) := by decide +kernel
theorem dL_law_812 : decode cL_law 812 = .ok (.iconst 3, 1) := by decide +kernel
theorem dL_law_813 : decode cL_law 813 = .ok (.iadd, 1) := by decide +kernel
theorem dL_law_814 : decode cL_law 814 = .ok (.iaload, 1) := by decide +kernel
theorem dL_law_815 : decode cL_law 815 = .ok (.invokevirtual 111, 3) := by decide +kernel
theorem dL_law_818 : decode cL_law 818 = .ok (.if_icmp .eq 28, 3) := by decide +kernel
theorem dL_law_821 : decode cL_law 821 = .ok (.iconst 0, 1) := by decide +kernel
theorem dL_law_822 : decode cL_law 822 = .ok (.ireturn, 1) := by decide +kernel
theorem dL_law_823 : decode cL_law 823 = .ok (.aload_n 1, 1) := by decide +kernel
theorem dL_law_824 : decode cL_law 824 = .ok (.aload_n 0, 1) := by decide +kernel
theorem dL_law_825 : decode cL_law 825 = .ok (.iload_n 3, 1) := by decide +kernel
theorem dL_law_826 : decode cL_law 826 = .ok (.iconst 1, 1) := by decide +kernel
theorem dL_law_827 : decode cL_law 827 = .ok (.iadd, 1) := by decide +kernel
theorem dL_law_828 : decode cL_law 828 = .ok (.iaload, 1) := by decide +kernel
theorem dL_law_829 : decode cL_law 829 = .ok (.invokevirtual 112, 3) := by decide +kernel
theorem dL_law_832 : decode cL_law 832 = .ok (.aload_n 2, 1) := by decide +kernel
theorem dL_law_833 : decode cL_law 833 = .ok (.aload_n 0, 1) := by decide +kernel
theorem dL_law_834 : decode cL_law 834 = .ok (.iload_n 3, 1) := by decide +kernel
theorem dL_law_835 : decode cL_law 835 = .ok (.iconst 1, 1) := by decide +kernel
theorem dL_law_836 : decode cL_law 836 = .ok (.iadd, 1) := by decide +kernel
theorem dL_law_837 : decode cL_law 837 = .ok (.iaload, 1) := by decide +kernel
theorem dL_law_838 : decode cL_law 838 = .ok (.invokevirtual 115, 3) := by decide +kernel
theorem dL_law_841 : decode cL_law 841 = .ok (.if_icmp .eq 5, 3) := by decide +kernel
theorem dL_law_844 : decode cL_law 844 = .ok (.iconst 0, 1) := by decide +kernel
theorem dL_law_845 : decode cL_law 845 = .ok (.ireturn, 1) := by decide +kernel
theorem dL_law_846 : decode cL_law 846 = .ok (.iinc 3 6, 3) := by decide +kernel
theorem dL_law_849 : decode cL_law 849 = .ok (.goto (-831), 3) := by decide +kernel
theorem dL_law_852 : decode cL_law 852 = .ok (.iconst 1, 1) := by decide +kernel
theorem dL_law_853 : decode cL_law 853 = .ok (.ireturn, 1) := by decide +kernel
end
section
/-- the words of the tables that a callee may rest on too -/
def WL : List Cond := lw_tbl.filter goodWord
theorem WL_sub : ∀ w ∈ WL, w ∈ lw_tbl := fun _ h => (List.mem_filter.mp h).1
theorem WL_in {w : Cond} (h : w ∈ lw_tbl) (g : goodWord w = true) : w ∈ WL := List.mem_filter.mpr ⟨h, g⟩
theorem WL_good : ∀ w ∈ WL, goodWord w = true := fun _ h => (List.mem_filter.mp h).2
theorem tm0 {w : Cond} (h : w ∈ k2_sels lw_privs) : w ∈ lw_tbl := List.mem_append_left _ h
theorem tmt {w : Cond} (h : w ∈ tables_1) : w ∈ lw_tbl := List.mem_append_right _ h
theorem tm1 {w : Cond} (h : w ∈ tables_1_1) : w ∈ lw_tbl := tmt (List.mem_append_left _ h)
theorem tm2 {w : Cond} (h : w ∈ tables_1_2) : w ∈ lw_tbl := tmt (List.mem_append_right _ (List.mem_append_left _ h))
theorem tm3 {w : Cond} (h : w ∈ tables_1_3) : w ∈ lw_tbl := tmt (List.mem_append_right _ (List.mem_append_right _ (List.mem_append_left _ h)))
theorem tm4 {w : Cond} (h : w ∈ tables_1_4) : w ∈ lw_tbl := tmt (List.mem_append_right _ (List.mem_append_right _ (List.mem_append_right _ h)))
theorem wk1_0 : Jvm.Cond.initialized "BooksMovedLaw" ∈ WL := WL_in (tm1 (List.mem_of_getElem? (i := 0) (by decide +kernel))) rfl
theorem wk1_1 : Jvm.Cond.initialized "BooksMoved" ∈ WL := WL_in (tm1 (List.mem_of_getElem? (i := 1) (by decide +kernel))) rfl
theorem wk1_2 : Jvm.Cond.initialized "BooksMoved$Tape" ∈ WL := WL_in (tm1 (List.mem_of_getElem? (i := 2) (by decide +kernel))) rfl
theorem wk1_3 : Jvm.Cond.initialized "BooksMoved$Mark" ∈ WL := WL_in (tm1 (List.mem_of_getElem? (i := 3) (by decide +kernel))) rfl
theorem wk1_4 : Jvm.Cond.initialized "BooksMoved$Books" ∈ WL := WL_in (tm1 (List.mem_of_getElem? (i := 4) (by decide +kernel))) rfl
theorem wk1_5 : Jvm.Cond.initialized "BooksMoved$Shelves" ∈ WL := WL_in (tm1 (List.mem_of_getElem? (i := 5) (by decide +kernel))) rfl
theorem wk1_6 : Jvm.Cond.initialized "BooksMoved$Crates" ∈ WL := WL_in (tm1 (List.mem_of_getElem? (i := 6) (by decide +kernel))) rfl
theorem wk1_7 : Jvm.Cond.initialized "BooksMoved$Row" ∈ WL := WL_in (tm1 (List.mem_of_getElem? (i := 7) (by decide +kernel))) rfl
theorem wk1_8 : Jvm.Cond.initialized "BooksMovedModel" ∈ WL := WL_in (tm1 (List.mem_of_getElem? (i := 8) (by decide +kernel))) rfl
theorem wk1_9 : Jvm.Cond.initialized "java/lang/Math" ∈ WL := WL_in (tm1 (List.mem_of_getElem? (i := 9) (by decide +kernel))) rfl
theorem wk1_10 : Jvm.Cond.classLink "BooksMovedLaw" (7 : Nat) "BooksMoved" ∈ WL := WL_in (tm1 (List.mem_of_getElem? (i := 10) (by decide +kernel))) rfl
theorem wk1_11 : Jvm.Cond.instantiable "BooksMoved" (9 : Nat) ∈ WL := WL_in (tm1 (List.mem_of_getElem? (i := 11) (by decide +kernel))) rfl
theorem wk1_12 : Jvm.Cond.methodLink "BooksMovedLaw" (9 : Nat) ({ cls := "BooksMoved", name := "<init>", desc := "()V" } : Jvm.MethodName) ∈ WL := WL_in (tm1 (List.mem_of_getElem? (i := 12) (by decide +kernel))) rfl
theorem wk1_13 : Jvm.Cond.instanceMethod ({ cls := "BooksMoved", name := "<init>", desc := "()V" } : Jvm.MethodName) ∈ WL := WL_in (tm1 (List.mem_of_getElem? (i := 13) (by decide +kernel))) rfl
theorem wk1_14 : Jvm.Cond.code ({ cls := "BooksMoved", name := "<init>", desc := "()V" } : Jvm.MethodName) prog_1_method_1_code (1 : Nat) (Option.none : Option Jvm.ClassFile.FieldType) ∈ WL := WL_in (tm1 (List.mem_of_getElem? (i := 14) rfl)) rfl
theorem wk1_15 : Jvm.Cond.methodLink "BooksMoved" (1 : Nat) ({ cls := "java/lang/Object", name := "<init>", desc := "()V" } : Jvm.MethodName) ∈ WL := WL_in (tm1 (List.mem_of_getElem? (i := 15) (by decide +kernel))) rfl
theorem wk1_16 : Jvm.Cond.instanceMethod ({ cls := "java/lang/Object", name := "<init>", desc := "()V" } : Jvm.MethodName) ∈ WL := WL_in (tm1 (List.mem_of_getElem? (i := 16) (by decide +kernel))) rfl
theorem wk1_17 : Jvm.Cond.code ({ cls := "java/lang/Object", name := "<init>", desc := "()V" } : Jvm.MethodName) object_method_1_code (1 : Nat) (Option.none : Option Jvm.ClassFile.FieldType) ∈ WL := WL_in (tm1 (List.mem_of_getElem? (i := 17) rfl)) rfl
theorem wk1_18 : Jvm.Cond.classLink "BooksMoved" (7 : Nat) "BooksMoved$Tape" ∈ WL := WL_in (tm1 (List.mem_of_getElem? (i := 18) (by decide +kernel))) rfl
theorem wk1_19 : Jvm.Cond.instantiable "BooksMoved$Tape" (2 : Nat) ∈ WL := WL_in (tm1 (List.mem_of_getElem? (i := 19) (by decide +kernel))) rfl
theorem wk1_21 : Jvm.Cond.instanceMethod ({ cls := "BooksMoved$Tape", name := "<init>", desc := "()V" } : Jvm.MethodName) ∈ WL := WL_in (tm1 (List.mem_of_getElem? (i := 21) (by decide +kernel))) rfl
theorem wk1_22 : Jvm.Cond.code ({ cls := "BooksMoved$Tape", name := "<init>", desc := "()V" } : Jvm.MethodName) prog_7_method_1_code (1 : Nat) (Option.none : Option Jvm.ClassFile.FieldType) ∈ WL := WL_in (tm1 (List.mem_of_getElem? (i := 22) rfl)) rfl
theorem wk1_23 : Jvm.Cond.methodLink "BooksMoved$Tape" (3 : Nat) ({ cls := "java/lang/Object", name := "<init>", desc := "()V" } : Jvm.MethodName) ∈ WL := WL_in (tm1 (List.mem_of_getElem? (i := 23) (by decide +kernel))) rfl
theorem wk1_24 : Jvm.Cond.fieldLink "BooksMoved$Tape" (9 : Nat) "BooksMoved$Tape" "bytes" "[I" ∈ WL := WL_in (tm1 (List.mem_of_getElem? (i := 24) (by decide +kernel))) rfl
theorem wk1_25 : Jvm.Cond.fieldLink "BooksMoved$Tape" (15 : Nat) "BooksMoved$Tape" "count" "I" ∈ WL := WL_in (tm1 (List.mem_of_getElem? (i := 25) (by decide +kernel))) rfl
theorem wk1_26 : Jvm.Cond.fieldLink "BooksMoved" (62 : Nat) "BooksMoved$Tape" "count" "I" ∈ WL := WL_in (tm1 (List.mem_of_getElem? (i := 26) (by decide +kernel))) rfl
theorem wk1_27 : Jvm.Cond.fieldLink "BooksMoved$Mark" (51 : Nat) "BooksMoved$Tape" "count" "I" ∈ WL := WL_in (tm1 (List.mem_of_getElem? (i := 27) (by decide +kernel))) rfl
theorem wk1_33 : Jvm.Cond.arrayClass Jvm.ClassFile.FieldType.int ∈ WL := WL_in (tm1 (List.mem_of_getElem? (i := 33) (by decide +kernel))) rfl
theorem wk1_34 : Jvm.Cond.classLink "BooksMoved" (16 : Nat) "BooksMoved$Mark" ∈ WL := WL_in (tm1 (List.mem_of_getElem? (i := 34) (by decide +kernel))) rfl
theorem wk1_35 : Jvm.Cond.instantiable "BooksMoved$Mark" (6 : Nat) ∈ WL := WL_in (tm1 (List.mem_of_getElem? (i := 35) (by decide +kernel))) rfl
theorem wk1_37 : Jvm.Cond.instanceMethod ({ cls := "BooksMoved$Mark", name := "<init>", desc := "()V" } : Jvm.MethodName) ∈ WL := WL_in (tm1 (List.mem_of_getElem? (i := 37) (by decide +kernel))) rfl
theorem wk1_38 : Jvm.Cond.code ({ cls := "BooksMoved$Mark", name := "<init>", desc := "()V" } : Jvm.MethodName) prog_4_method_1_code (1 : Nat) (Option.none : Option Jvm.ClassFile.FieldType) ∈ WL := WL_in (tm1 (List.mem_of_getElem? (i := 38) rfl)) rfl
theorem wk1_39 : Jvm.Cond.methodLink "BooksMoved$Mark" (3 : Nat) ({ cls := "java/lang/Object", name := "<init>", desc := "()V" } : Jvm.MethodName) ∈ WL := WL_in (tm1 (List.mem_of_getElem? (i := 39) (by decide +kernel))) rfl
theorem wk1_40 : Jvm.Cond.fieldLink "BooksMoved$Mark" (9 : Nat) "BooksMoved$Mark" "wrongAt" "I" ∈ WL := WL_in (tm1 (List.mem_of_getElem? (i := 40) (by decide +kernel))) rfl
theorem wk1_41 : Jvm.Cond.fieldLink "BooksMoved" (78 : Nat) "BooksMoved$Mark" "wrongAt" "I" ∈ WL := WL_in (tm1 (List.mem_of_getElem? (i := 41) (by decide +kernel))) rfl
theorem wk1_42 : Jvm.Cond.fieldLink "BooksMoved$Mark" (32 : Nat) "BooksMoved$Mark" "number" "I" ∈ WL := WL_in (tm1 (List.mem_of_getElem? (i := 42) (by decide +kernel))) rfl
theorem wk1_43 : Jvm.Cond.fieldLink "BooksMoved$Books" (45 : Nat) "BooksMoved$Mark" "number" "I" ∈ WL := WL_in (tm1 (List.mem_of_getElem? (i := 43) (by decide +kernel))) rfl
theorem wk1_44 : Jvm.Cond.fieldLink "BooksMoved$Mark" (15 : Nat) "BooksMoved$Mark" "behind" "I" ∈ WL := WL_in (tm1 (List.mem_of_getElem? (i := 44) (by decide +kernel))) rfl
theorem wk1_45 : Jvm.Cond.fieldLink "BooksMoved$Mark" (18 : Nat) "BooksMoved$Mark" "behindDigits" "I" ∈ WL := WL_in (tm1 (List.mem_of_getElem? (i := 45) (by decide +kernel))) rfl
theorem wk1_46 : Jvm.Cond.fieldLink "BooksMoved$Mark" (21 : Nat) "BooksMoved$Mark" "behindFromLeft" "I" ∈ WL := WL_in (tm1 (List.mem_of_getElem? (i := 46) (by decide +kernel))) rfl
theorem wk1_47 : Jvm.Cond.fieldLink "BooksMoved$Mark" (58 : Nat) "BooksMoved$Mark" "letters" "I" ∈ WL := WL_in (tm1 (List.mem_of_getElem? (i := 47) (by decide +kernel))) rfl
theorem wk1_61 : Jvm.Cond.classLink "BooksMoved" (23 : Nat) "BooksMoved$Books" ∈ WL := WL_in (tm1 (List.mem_of_getElem? (i := 61) (by decide +kernel))) rfl
theorem wk1_62 : Jvm.Cond.instantiable "BooksMoved$Books" (8 : Nat) ∈ WL := WL_in (tm1 (List.mem_of_getElem? (i := 62) (by decide +kernel))) rfl
theorem wk1_64 : Jvm.Cond.instanceMethod ({ cls := "BooksMoved$Books", name := "<init>", desc := "()V" } : Jvm.MethodName) ∈ WL := WL_in (tm1 (List.mem_of_getElem? (i := 64) (by decide +kernel))) rfl
theorem wk1_65 : Jvm.Cond.code ({ cls := "BooksMoved$Books", name := "<init>", desc := "()V" } : Jvm.MethodName) prog_2_method_1_code (1 : Nat) (Option.none : Option Jvm.ClassFile.FieldType) ∈ WL := WL_in (tm1 (List.mem_of_getElem? (i := 65) rfl)) rfl
theorem wk1_66 : Jvm.Cond.methodLink "BooksMoved$Books" (3 : Nat) ({ cls := "java/lang/Object", name := "<init>", desc := "()V" } : Jvm.MethodName) ∈ WL := WL_in (tm1 (List.mem_of_getElem? (i := 66) (by decide +kernel))) rfl
theorem wk1_67 : Jvm.Cond.classLink "BooksMoved$Books" (9 : Nat) "[[J" ∈ WL := WL_in (tm1 (List.mem_of_getElem? (i := 67) (by decide +kernel))) rfl
theorem wk1_69 : Jvm.Cond.classLink "BooksMoved$Books" (16 : Nat) "[[I" ∈ WL := WL_in (tm1 (List.mem_of_getElem? (i := 69) (by decide +kernel))) rfl
theorem wk1_71 : Jvm.Cond.fieldLink "BooksMoved$Books" (11 : Nat) "BooksMoved$Books" "key" "[[J" ∈ WL := WL_in (tm1 (List.mem_of_getElem? (i := 71) (by decide +kernel))) rfl
theorem wk1_72 : Jvm.Cond.fieldLink "BooksMoved$Books" (18 : Nat) "BooksMoved$Books" "order" "[[I" ∈ WL := WL_in (tm1 (List.mem_of_getElem? (i := 72) (by decide +kernel))) rfl
theorem wk1_73 : Jvm.Cond.fieldLink "BooksMoved$Crates" (49 : Nat) "BooksMoved$Books" "order" "[[I" ∈ WL := WL_in (tm1 (List.mem_of_getElem? (i := 73) (by decide +kernel))) rfl
theorem wk1_74 : Jvm.Cond.fieldLink "BooksMoved$Shelves" (49 : Nat) "BooksMoved$Books" "order" "[[I" ∈ WL := WL_in (tm1 (List.mem_of_getElem? (i := 74) (by decide +kernel))) rfl
theorem wk1_75 : Jvm.Cond.fieldLink "BooksMoved" (99 : Nat) "BooksMoved$Books" "order" "[[I" ∈ WL := WL_in (tm1 (List.mem_of_getElem? (i := 75) (by decide +kernel))) rfl
theorem wk1_76 : Jvm.Cond.fieldLink "BooksMoved$Books" (21 : Nat) "BooksMoved$Books" "house" "[I" ∈ WL := WL_in (tm1 (List.mem_of_getElem? (i := 76) (by decide +kernel))) rfl
theorem wk1_77 : Jvm.Cond.fieldLink "BooksMoved$Crates" (53 : Nat) "BooksMoved$Books" "house" "[I" ∈ WL := WL_in (tm1 (List.mem_of_getElem? (i := 77) (by decide +kernel))) rfl
theorem wk1_78 : Jvm.Cond.fieldLink "BooksMoved$Books" (25 : Nat) "BooksMoved$Books" "thick" "[I" ∈ WL := WL_in (tm1 (List.mem_of_getElem? (i := 78) (by decide +kernel))) rfl
theorem wk1_79 : Jvm.Cond.fieldLink "BooksMoved$Crates" (54 : Nat) "BooksMoved$Books" "thick" "[I" ∈ WL := WL_in (tm1 (List.mem_of_getElem? (i := 79) (by decide +kernel))) rfl
theorem wk1_80 : Jvm.Cond.fieldLink "BooksMoved$Shelves" (56 : Nat) "BooksMoved$Books" "thick" "[I" ∈ WL := WL_in (tm1 (List.mem_of_getElem? (i := 80) (by decide +kernel))) rfl
theorem wk1_81 : Jvm.Cond.fieldLink "BooksMoved$Books" (28 : Nat) "BooksMoved$Books" "tall" "[I" ∈ WL := WL_in (tm1 (List.mem_of_getElem? (i := 81) (by decide +kernel))) rfl
theorem wk1_82 : Jvm.Cond.fieldLink "BooksMoved$Shelves" (53 : Nat) "BooksMoved$Books" "tall" "[I" ∈ WL := WL_in (tm1 (List.mem_of_getElem? (i := 82) (by decide +kernel))) rfl
theorem wk1_83 : Jvm.Cond.fieldLink "BooksMoved$Books" (31 : Nat) "BooksMoved$Books" "thousand" "[I" ∈ WL := WL_in (tm1 (List.mem_of_getElem? (i := 83) (by decide +kernel))) rfl
theorem wk1_84 : Jvm.Cond.fieldLink "BooksMoved$Shelves" (59 : Nat) "BooksMoved$Books" "thousand" "[I" ∈ WL := WL_in (tm1 (List.mem_of_getElem? (i := 84) (by decide +kernel))) rfl
theorem wk1_85 : Jvm.Cond.fieldLink "BooksMoved$Books" (34 : Nat) "BooksMoved$Books" "count" "I" ∈ WL := WL_in (tm1 (List.mem_of_getElem? (i := 85) (by decide +kernel))) rfl
theorem wk1_86 : Jvm.Cond.fieldLink "BooksMoved$Crates" (46 : Nat) "BooksMoved$Books" "count" "I" ∈ WL := WL_in (tm1 (List.mem_of_getElem? (i := 86) (by decide +kernel))) rfl
theorem wk1_87 : Jvm.Cond.fieldLink "BooksMoved" (73 : Nat) "BooksMoved$Books" "count" "I" ∈ WL := WL_in (tm1 (List.mem_of_getElem? (i := 87) (by decide +kernel))) rfl
theorem wk1_88 : Jvm.Cond.fieldLink "BooksMoved$Shelves" (46 : Nat) "BooksMoved$Books" "count" "I" ∈ WL := WL_in (tm1 (List.mem_of_getElem? (i := 88) (by decide +kernel))) rfl
theorem wk1_89 : Jvm.Cond.fieldLink "BooksMoved$Books" (38 : Nat) "BooksMoved$Books" "quarrelling" "I" ∈ WL := WL_in (tm1 (List.mem_of_getElem? (i := 89) (by decide +kernel))) rfl
theorem wk1_90 : Jvm.Cond.fieldLink "BooksMoved" (103 : Nat) "BooksMoved$Books" "quarrelling" "I" ∈ WL := WL_in (tm1 (List.mem_of_getElem? (i := 90) (by decide +kernel))) rfl
theorem wk1_108 : Jvm.Cond.arrayClass Jvm.ClassFile.FieldType.long ∈ WL := WL_in (tm1 (List.mem_of_getElem? (i := 108) (by decide +kernel))) rfl
theorem wk1_109 : Jvm.Cond.classLink "BooksMoved" (30 : Nat) "BooksMoved$Shelves" ∈ WL := WL_in (tm1 (List.mem_of_getElem? (i := 109) (by decide +kernel))) rfl
theorem wk1_110 : Jvm.Cond.instantiable "BooksMoved$Shelves" (10 : Nat) ∈ WL := WL_in (tm1 (List.mem_of_getElem? (i := 110) (by decide +kernel))) rfl
theorem wk1_112 : Jvm.Cond.instanceMethod ({ cls := "BooksMoved$Shelves", name := "<init>", desc := "()V" } : Jvm.MethodName) ∈ WL := WL_in (tm1 (List.mem_of_getElem? (i := 112) (by decide +kernel))) rfl
theorem wk1_113 : Jvm.Cond.code ({ cls := "BooksMoved$Shelves", name := "<init>", desc := "()V" } : Jvm.MethodName) prog_6_method_1_code (1 : Nat) (Option.none : Option Jvm.ClassFile.FieldType) ∈ WL := WL_in (tm1 (List.mem_of_getElem? (i := 113) rfl)) rfl
theorem wk1_114 : Jvm.Cond.methodLink "BooksMoved$Shelves" (3 : Nat) ({ cls := "java/lang/Object", name := "<init>", desc := "()V" } : Jvm.MethodName) ∈ WL := WL_in (tm1 (List.mem_of_getElem? (i := 114) (by decide +kernel))) rfl
theorem wk1_115 : Jvm.Cond.fieldLink "BooksMoved$Shelves" (9 : Nat) "BooksMoved$Shelves" "length" "[I" ∈ WL := WL_in (tm1 (List.mem_of_getElem? (i := 115) (by decide +kernel))) rfl
theorem wk1_116 : Jvm.Cond.fieldLink "BooksMoved$Shelves" (15 : Nat) "BooksMoved$Shelves" "growth" "[I" ∈ WL := WL_in (tm1 (List.mem_of_getElem? (i := 116) (by decide +kernel))) rfl
theorem wk1_117 : Jvm.Cond.fieldLink "BooksMoved" (116 : Nat) "BooksMoved$Shelves" "growth" "[I" ∈ WL := WL_in (tm1 (List.mem_of_getElem? (i := 117) (by decide +kernel))) rfl
theorem wk1_118 : Jvm.Cond.fieldLink "BooksMoved$Shelves" (18 : Nat) "BooksMoved$Shelves" "booksOn" "[I" ∈ WL := WL_in (tm1 (List.mem_of_getElem? (i := 118) (by decide +kernel))) rfl
theorem wk1_119 : Jvm.Cond.fieldLink "BooksMoved" (129 : Nat) "BooksMoved$Shelves" "booksOn" "[I" ∈ WL := WL_in (tm1 (List.mem_of_getElem? (i := 119) (by decide +kernel))) rfl
theorem wk1_120 : Jvm.Cond.fieldLink "BooksMoved$Shelves" (21 : Nat) "BooksMoved$Shelves" "needed" "[I" ∈ WL := WL_in (tm1 (List.mem_of_getElem? (i := 120) (by decide +kernel))) rfl
theorem wk1_121 : Jvm.Cond.fieldLink "BooksMoved" (135 : Nat) "BooksMoved$Shelves" "needed" "[I" ∈ WL := WL_in (tm1 (List.mem_of_getElem? (i := 121) (by decide +kernel))) rfl
theorem wk1_122 : Jvm.Cond.fieldLink "BooksMoved$Shelves" (24 : Nat) "BooksMoved$Shelves" "shelfOfBook" "[I" ∈ WL := WL_in (tm1 (List.mem_of_getElem? (i := 122) (by decide +kernel))) rfl
theorem wk1_123 : Jvm.Cond.fieldLink "BooksMoved" (123 : Nat) "BooksMoved$Shelves" "shelfOfBook" "[I" ∈ WL := WL_in (tm1 (List.mem_of_getElem? (i := 123) (by decide +kernel))) rfl
theorem wk1_124 : Jvm.Cond.fieldLink "BooksMoved$Shelves" (27 : Nat) "BooksMoved$Shelves" "placeOfBook" "[I" ∈ WL := WL_in (tm1 (List.mem_of_getElem? (i := 124) (by decide +kernel))) rfl
theorem wk1_125 : Jvm.Cond.fieldLink "BooksMoved" (126 : Nat) "BooksMoved$Shelves" "placeOfBook" "[I" ∈ WL := WL_in (tm1 (List.mem_of_getElem? (i := 125) (by decide +kernel))) rfl
theorem wk1_126 : Jvm.Cond.fieldLink "BooksMoved$Shelves" (30 : Nat) "BooksMoved$Shelves" "count" "I" ∈ WL := WL_in (tm1 (List.mem_of_getElem? (i := 126) (by decide +kernel))) rfl
theorem wk1_127 : Jvm.Cond.fieldLink "BooksMoved" (106 : Nat) "BooksMoved$Shelves" "count" "I" ∈ WL := WL_in (tm1 (List.mem_of_getElem? (i := 127) (by decide +kernel))) rfl
theorem wk1_128 : Jvm.Cond.fieldLink "BooksMoved$Shelves" (34 : Nat) "BooksMoved$Shelves" "limit" "I" ∈ WL := WL_in (tm1 (List.mem_of_getElem? (i := 128) (by decide +kernel))) rfl
theorem wk1_129 : Jvm.Cond.fieldLink "BooksMoved" (110 : Nat) "BooksMoved$Shelves" "limit" "I" ∈ WL := WL_in (tm1 (List.mem_of_getElem? (i := 129) (by decide +kernel))) rfl
theorem wk1_130 : Jvm.Cond.fieldLink "BooksMoved$Shelves" (37 : Nat) "BooksMoved$Shelves" "outsize" "I" ∈ WL := WL_in (tm1 (List.mem_of_getElem? (i := 130) (by decide +kernel))) rfl
theorem wk1_131 : Jvm.Cond.fieldLink "BooksMoved" (138 : Nat) "BooksMoved$Shelves" "outsize" "I" ∈ WL := WL_in (tm1 (List.mem_of_getElem? (i := 131) (by decide +kernel))) rfl
theorem wk1_132 : Jvm.Cond.fieldLink "BooksMoved$Shelves" (40 : Nat) "BooksMoved$Shelves" "notLaid" "I" ∈ WL := WL_in (tm1 (List.mem_of_getElem? (i := 132) (by decide +kernel))) rfl
theorem wk1_133 : Jvm.Cond.fieldLink "BooksMoved" (141 : Nat) "BooksMoved$Shelves" "notLaid" "I" ∈ WL := WL_in (tm1 (List.mem_of_getElem? (i := 133) (by decide +kernel))) rfl
theorem wk1_155 : Jvm.Cond.classLink "BooksMoved" (37 : Nat) "BooksMoved$Crates" ∈ WL := WL_in (tm1 (List.mem_of_getElem? (i := 155) (by decide +kernel))) rfl
theorem wk1_156 : Jvm.Cond.instantiable "BooksMoved$Crates" (11 : Nat) ∈ WL := WL_in (tm1 (List.mem_of_getElem? (i := 156) (by decide +kernel))) rfl
theorem wk1_158 : Jvm.Cond.instanceMethod ({ cls := "BooksMoved$Crates", name := "<init>", desc := "()V" } : Jvm.MethodName) ∈ WL := WL_in (tm1 (List.mem_of_getElem? (i := 158) (by decide +kernel))) rfl
theorem wk1_159 : Jvm.Cond.code ({ cls := "BooksMoved$Crates", name := "<init>", desc := "()V" } : Jvm.MethodName) prog_3_method_1_code (1 : Nat) (Option.none : Option Jvm.ClassFile.FieldType) ∈ WL := WL_in (tm1 (List.mem_of_getElem? (i := 159) rfl)) rfl
theorem wk1_160 : Jvm.Cond.methodLink "BooksMoved$Crates" (3 : Nat) ({ cls := "java/lang/Object", name := "<init>", desc := "()V" } : Jvm.MethodName) ∈ WL := WL_in (tm1 (List.mem_of_getElem? (i := 160) (by decide +kernel))) rfl
theorem wk1_161 : Jvm.Cond.fieldLink "BooksMoved$Crates" (9 : Nat) "BooksMoved$Crates" "wayOfHouse" "[I" ∈ WL := WL_in (tm1 (List.mem_of_getElem? (i := 161) (by decide +kernel))) rfl
theorem wk1_162 : Jvm.Cond.fieldLink "BooksMoved" (145 : Nat) "BooksMoved$Crates" "wayOfHouse" "[I" ∈ WL := WL_in (tm1 (List.mem_of_getElem? (i := 162) (by decide +kernel))) rfl
theorem wk1_163 : Jvm.Cond.fieldLink "BooksMoved$Crates" (15 : Nat) "BooksMoved$Crates" "firstBook" "[I" ∈ WL := WL_in (tm1 (List.mem_of_getElem? (i := 163) (by decide +kernel))) rfl
theorem wk1_164 : Jvm.Cond.fieldLink "BooksMoved" (148 : Nat) "BooksMoved$Crates" "firstBook" "[I" ∈ WL := WL_in (tm1 (List.mem_of_getElem? (i := 164) (by decide +kernel))) rfl
theorem wk1_165 : Jvm.Cond.fieldLink "BooksMoved$Crates" (18 : Nat) "BooksMoved$Crates" "booksIn" "[I" ∈ WL := WL_in (tm1 (List.mem_of_getElem? (i := 165) (by decide +kernel))) rfl
theorem wk1_166 : Jvm.Cond.fieldLink "BooksMoved" (151 : Nat) "BooksMoved$Crates" "booksIn" "[I" ∈ WL := WL_in (tm1 (List.mem_of_getElem? (i := 166) (by decide +kernel))) rfl
theorem wk1_167 : Jvm.Cond.fieldLink "BooksMoved$Crates" (21 : Nat) "BooksMoved$Crates" "house" "[I" ∈ WL := WL_in (tm1 (List.mem_of_getElem? (i := 167) (by decide +kernel))) rfl
theorem wk1_168 : Jvm.Cond.fieldLink "BooksMoved" (154 : Nat) "BooksMoved$Crates" "house" "[I" ∈ WL := WL_in (tm1 (List.mem_of_getElem? (i := 168) (by decide +kernel))) rfl
theorem wk1_169 : Jvm.Cond.fieldLink "BooksMoved$Crates" (24 : Nat) "BooksMoved$Crates" "begins" "[I" ∈ WL := WL_in (tm1 (List.mem_of_getElem? (i := 169) (by decide +kernel))) rfl
theorem wk1_170 : Jvm.Cond.fieldLink "BooksMoved" (157 : Nat) "BooksMoved$Crates" "begins" "[I" ∈ WL := WL_in (tm1 (List.mem_of_getElem? (i := 170) (by decide +kernel))) rfl
theorem wk1_171 : Jvm.Cond.fieldLink "BooksMoved$Crates" (27 : Nat) "BooksMoved$Crates" "ends" "[I" ∈ WL := WL_in (tm1 (List.mem_of_getElem? (i := 171) (by decide +kernel))) rfl
theorem wk1_172 : Jvm.Cond.fieldLink "BooksMoved" (160 : Nat) "BooksMoved$Crates" "ends" "[I" ∈ WL := WL_in (tm1 (List.mem_of_getElem? (i := 172) (by decide +kernel))) rfl
theorem wk1_173 : Jvm.Cond.fieldLink "BooksMoved$Crates" (30 : Nat) "BooksMoved$Crates" "crateOfBook" "[I" ∈ WL := WL_in (tm1 (List.mem_of_getElem? (i := 173) (by decide +kernel))) rfl
theorem wk1_174 : Jvm.Cond.fieldLink "BooksMoved" (177 : Nat) "BooksMoved$Crates" "crateOfBook" "[I" ∈ WL := WL_in (tm1 (List.mem_of_getElem? (i := 174) (by decide +kernel))) rfl
theorem wk1_175 : Jvm.Cond.fieldLink "BooksMoved$Crates" (33 : Nat) "BooksMoved$Crates" "hold" "I" ∈ WL := WL_in (tm1 (List.mem_of_getElem? (i := 175) (by decide +kernel))) rfl
theorem wk1_176 : Jvm.Cond.fieldLink "BooksMoved" (113 : Nat) "BooksMoved$Crates" "hold" "I" ∈ WL := WL_in (tm1 (List.mem_of_getElem? (i := 176) (by decide +kernel))) rfl
theorem wk1_177 : Jvm.Cond.fieldLink "BooksMoved$Crates" (37 : Nat) "BooksMoved$Crates" "count" "I" ∈ WL := WL_in (tm1 (List.mem_of_getElem? (i := 177) (by decide +kernel))) rfl
theorem wk1_178 : Jvm.Cond.fieldLink "BooksMoved" (144 : Nat) "BooksMoved$Crates" "count" "I" ∈ WL := WL_in (tm1 (List.mem_of_getElem? (i := 178) (by decide +kernel))) rfl
theorem wk1_179 : Jvm.Cond.fieldLink "BooksMoved$Crates" (40 : Nat) "BooksMoved$Crates" "ofFirstTeam" "I" ∈ WL := WL_in (tm1 (List.mem_of_getElem? (i := 179) (by decide +kernel))) rfl
theorem wk1_180 : Jvm.Cond.fieldLink "BooksMoved" (163 : Nat) "BooksMoved$Crates" "ofFirstTeam" "I" ∈ WL := WL_in (tm1 (List.mem_of_getElem? (i := 180) (by decide +kernel))) rfl
theorem wk1_181 : Jvm.Cond.fieldLink "BooksMoved$Crates" (43 : Nat) "BooksMoved$Crates" "bothEnded" "I" ∈ WL := WL_in (tm1 (List.mem_of_getElem? (i := 181) (by decide +kernel))) rfl
theorem wk1_182 : Jvm.Cond.fieldLink "BooksMoved" (166 : Nat) "BooksMoved$Crates" "bothEnded" "I" ∈ WL := WL_in (tm1 (List.mem_of_getElem? (i := 182) (by decide +kernel))) rfl
theorem wk1_206 : Jvm.Cond.classLink "BooksMoved" (44 : Nat) "BooksMoved$Row" ∈ WL := WL_in (tm1 (List.mem_of_getElem? (i := 206) (by decide +kernel))) rfl
theorem wk1_207 : Jvm.Cond.instantiable "BooksMoved$Row" (6 : Nat) ∈ WL := WL_in (tm1 (List.mem_of_getElem? (i := 207) (by decide +kernel))) rfl
theorem wk1_209 : Jvm.Cond.instanceMethod ({ cls := "BooksMoved$Row", name := "<init>", desc := "()V" } : Jvm.MethodName) ∈ WL := WL_in (tm1 (List.mem_of_getElem? (i := 209) (by decide +kernel))) rfl
theorem wk1_210 : Jvm.Cond.code ({ cls := "BooksMoved$Row", name := "<init>", desc := "()V" } : Jvm.MethodName) prog_5_method_1_code (1 : Nat) (Option.none : Option Jvm.ClassFile.FieldType) ∈ WL := WL_in (tm1 (List.mem_of_getElem? (i := 210) rfl)) rfl
theorem wk1_211 : Jvm.Cond.methodLink "BooksMoved$Row" (3 : Nat) ({ cls := "java/lang/Object", name := "<init>", desc := "()V" } : Jvm.MethodName) ∈ WL := WL_in (tm1 (List.mem_of_getElem? (i := 211) (by decide +kernel))) rfl
theorem wk1_212 : Jvm.Cond.fieldLink "BooksMoved$Row" (9 : Nat) "BooksMoved$Row" "book" "[I" ∈ WL := WL_in (tm1 (List.mem_of_getElem? (i := 212) (by decide +kernel))) rfl
theorem wk1_213 : Jvm.Cond.fieldLink "BooksMoved" (186 : Nat) "BooksMoved$Row" "book" "[I" ∈ WL := WL_in (tm1 (List.mem_of_getElem? (i := 213) (by decide +kernel))) rfl
theorem wk1_214 : Jvm.Cond.fieldLink "BooksMoved$Row" (15 : Nat) "BooksMoved$Row" "out" "[Z" ∈ WL := WL_in (tm1 (List.mem_of_getElem? (i := 214) (by decide +kernel))) rfl
theorem wk1_215 : Jvm.Cond.fieldLink "BooksMoved" (199 : Nat) "BooksMoved$Row" "out" "[Z" ∈ WL := WL_in (tm1 (List.mem_of_getElem? (i := 215) (by decide +kernel))) rfl
theorem wk1_216 : Jvm.Cond.fieldLink "BooksMoved$Row" (19 : Nat) "BooksMoved$Row" "mostFrom" "[I" ∈ WL := WL_in (tm1 (List.mem_of_getElem? (i := 216) (by decide +kernel))) rfl
theorem wk1_217 : Jvm.Cond.fieldLink "BooksMoved$Row" (22 : Nat) "BooksMoved$Row" "places" "[I" ∈ WL := WL_in (tm1 (List.mem_of_getElem? (i := 217) (by decide +kernel))) rfl
theorem wk1_218 : Jvm.Cond.fieldLink "BooksMoved$Row" (25 : Nat) "BooksMoved$Row" "count" "I" ∈ WL := WL_in (tm1 (List.mem_of_getElem? (i := 218) (by decide +kernel))) rfl
theorem wk1_219 : Jvm.Cond.fieldLink "BooksMoved" (184 : Nat) "BooksMoved$Row" "count" "I" ∈ WL := WL_in (tm1 (List.mem_of_getElem? (i := 219) (by decide +kernel))) rfl
theorem wk1_220 : Jvm.Cond.fieldLink "BooksMoved$Row" (29 : Nat) "BooksMoved$Row" "outs" "I" ∈ WL := WL_in (tm1 (List.mem_of_getElem? (i := 220) (by decide +kernel))) rfl
theorem wk1_221 : Jvm.Cond.fieldLink "BooksMoved" (196 : Nat) "BooksMoved$Row" "outs" "I" ∈ WL := WL_in (tm1 (List.mem_of_getElem? (i := 221) (by decide +kernel))) rfl
theorem wk1_235 : Jvm.Cond.arrayClass Jvm.ClassFile.FieldType.boolean ∈ WL := WL_in (tm1 (List.mem_of_getElem? (i := 235) (by decide +kernel))) rfl
theorem wk1_236 : Jvm.Cond.fieldLink "BooksMoved" (10 : Nat) "BooksMoved" "tape" "LBooksMoved$Tape;" ∈ WL := WL_in (tm1 (List.mem_of_getElem? (i := 236) (by decide +kernel))) rfl
theorem wk1_237 : Jvm.Cond.fieldLink "BooksMoved" (19 : Nat) "BooksMoved" "mark" "LBooksMoved$Mark;" ∈ WL := WL_in (tm1 (List.mem_of_getElem? (i := 237) (by decide +kernel))) rfl
theorem wk1_238 : Jvm.Cond.fieldLink "BooksMoved" (26 : Nat) "BooksMoved" "books" "LBooksMoved$Books;" ∈ WL := WL_in (tm1 (List.mem_of_getElem? (i := 238) (by decide +kernel))) rfl
theorem wk1_239 : Jvm.Cond.fieldLink "BooksMoved" (33 : Nat) "BooksMoved" "shelves" "LBooksMoved$Shelves;" ∈ WL := WL_in (tm1 (List.mem_of_getElem? (i := 239) (by decide +kernel))) rfl
theorem wk2_0 : Jvm.Cond.fieldLink "BooksMoved" (40 : Nat) "BooksMoved" "crates" "LBooksMoved$Crates;" ∈ WL := WL_in (tm2 (List.mem_of_getElem? (i := 0) (by decide +kernel))) rfl
theorem wk2_1 : Jvm.Cond.fieldLink "BooksMoved" (47 : Nat) "BooksMoved" "standing" "LBooksMoved$Row;" ∈ WL := WL_in (tm2 (List.mem_of_getElem? (i := 1) (by decide +kernel))) rfl
theorem wk2_2 : Jvm.Cond.fieldLink "BooksMoved" (51 : Nat) "BooksMoved" "theRule" "I" ∈ WL := WL_in (tm2 (List.mem_of_getElem? (i := 2) (by decide +kernel))) rfl
theorem wk2_3 : Jvm.Cond.fieldLink "BooksMoved" (55 : Nat) "BooksMoved" "plansHold" "Z" ∈ WL := WL_in (tm2 (List.mem_of_getElem? (i := 3) (by decide +kernel))) rfl
theorem wk2_4 : Jvm.Cond.fieldLink "BooksMoved" (59 : Nat) "BooksMoved" "outsHold" "Z" ∈ WL := WL_in (tm2 (List.mem_of_getElem? (i := 4) (by decide +kernel))) rfl
theorem wk2_24 : Jvm.Cond.methodLink "BooksMovedLaw" (13 : Nat) ({ cls := "BooksMoved", name := "feed", desc := "(IIIII)I" } : Jvm.MethodName) ∈ WL := WL_in (tm2 (List.mem_of_getElem? (i := 24) (by decide +kernel))) rfl
theorem wk2_25 : Jvm.Cond.instanceMethod ({ cls := "BooksMoved", name := "feed", desc := "(IIIII)I" } : Jvm.MethodName) ∈ WL := WL_in (tm2 (List.mem_of_getElem? (i := 25) (by decide +kernel))) rfl
theorem wk2_26 : Jvm.Cond.selects "BooksMoved" ({ cls := "BooksMoved", name := "feed", desc := "(IIIII)I" } : Jvm.MethodName) ({ cls := "BooksMoved", name := "feed", desc := "(IIIII)I" } : Jvm.MethodName) ∈ WL := WL_in (tm2 (List.mem_of_getElem? (i := 26) (by decide +kernel))) rfl
theorem wk2_27 : Jvm.Cond.code ({ cls := "BooksMoved", name := "feed", desc := "(IIIII)I" } : Jvm.MethodName) prog_1_method_2_code (6 : Nat) (Option.some Jvm.ClassFile.FieldType.int) ∈ WL := WL_in (tm2 (List.mem_of_getElem? (i := 27) rfl)) rfl
theorem wk2_28 : Jvm.Cond.methodLink "BooksMoved" (65 : Nat) ({ cls := "BooksMoved$Tape", name := "append", desc := "(I)V" } : Jvm.MethodName) ∈ WL := WL_in (tm2 (List.mem_of_getElem? (i := 28) (by decide +kernel))) rfl
theorem wk2_29 : Jvm.Cond.instanceMethod ({ cls := "BooksMoved$Tape", name := "append", desc := "(I)V" } : Jvm.MethodName) ∈ WL := WL_in (tm2 (List.mem_of_getElem? (i := 29) (by decide +kernel))) rfl
theorem wk2_30 : Jvm.Cond.selects "BooksMoved$Tape" ({ cls := "BooksMoved$Tape", name := "append", desc := "(I)V" } : Jvm.MethodName) ({ cls := "BooksMoved$Tape", name := "append", desc := "(I)V" } : Jvm.MethodName) ∈ WL := WL_in (tm2 (List.mem_of_getElem? (i := 30) (by decide +kernel))) rfl
theorem wk2_31 : Jvm.Cond.code ({ cls := "BooksMoved$Tape", name := "append", desc := "(I)V" } : Jvm.MethodName) prog_7_method_2_code (3 : Nat) (Option.none : Option Jvm.ClassFile.FieldType) ∈ WL := WL_in (tm2 (List.mem_of_getElem? (i := 31) rfl)) rfl
theorem wk2_32 : Jvm.Cond.methodLink "BooksMovedLaw" (18 : Nat) ({ cls := "BooksMoved", name := "end", desc := "(I)I" } : Jvm.MethodName) ∈ WL := WL_in (tm2 (List.mem_of_getElem? (i := 32) (by decide +kernel))) rfl
theorem wk2_33 : Jvm.Cond.instanceMethod ({ cls := "BooksMoved", name := "end", desc := "(I)I" } : Jvm.MethodName) ∈ WL := WL_in (tm2 (List.mem_of_getElem? (i := 33) (by decide +kernel))) rfl
theorem wk2_34 : Jvm.Cond.selects "BooksMoved" ({ cls := "BooksMoved", name := "end", desc := "(I)I" } : Jvm.MethodName) ({ cls := "BooksMoved", name := "end", desc := "(I)I" } : Jvm.MethodName) ∈ WL := WL_in (tm2 (List.mem_of_getElem? (i := 34) (by decide +kernel))) rfl
theorem wk2_35 : Jvm.Cond.code ({ cls := "BooksMoved", name := "end", desc := "(I)I" } : Jvm.MethodName) prog_1_method_3_code (2 : Nat) (Option.some Jvm.ClassFile.FieldType.int) ∈ WL := WL_in (tm2 (List.mem_of_getElem? (i := 35) rfl)) rfl
theorem wk2_36 : Jvm.Cond.methodLink "BooksMoved" (69 : Nat) ({ cls := "BooksMoved", name := "within", desc := "(III)Z" } : Jvm.MethodName) ∈ WL := WL_in (tm2 (List.mem_of_getElem? (i := 36) (by decide +kernel))) rfl
theorem wk2_37 : Jvm.Cond.static ({ cls := "BooksMoved", name := "within", desc := "(III)Z" } : Jvm.MethodName) ∈ WL := WL_in (tm2 (List.mem_of_getElem? (i := 37) (by decide +kernel))) rfl
theorem wk2_38 : Jvm.Cond.code ({ cls := "BooksMoved", name := "within", desc := "(III)Z" } : Jvm.MethodName) prog_1_method_26_code (3 : Nat) (Option.some Jvm.ClassFile.FieldType.boolean) ∈ WL := WL_in (tm2 (List.mem_of_getElem? (i := 38) rfl)) rfl
theorem wk2_39 : Jvm.Cond.methodLink "BooksMovedLaw" (23 : Nat) ({ cls := "BooksMoved", name := "book", desc := "(III)I" } : Jvm.MethodName) ∈ WL := WL_in (tm2 (List.mem_of_getElem? (i := 39) (by decide +kernel))) rfl
theorem wk2_40 : Jvm.Cond.instanceMethod ({ cls := "BooksMoved", name := "book", desc := "(III)I" } : Jvm.MethodName) ∈ WL := WL_in (tm2 (List.mem_of_getElem? (i := 40) (by decide +kernel))) rfl
theorem wk2_41 : Jvm.Cond.selects "BooksMoved" ({ cls := "BooksMoved", name := "book", desc := "(III)I" } : Jvm.MethodName) ({ cls := "BooksMoved", name := "book", desc := "(III)I" } : Jvm.MethodName) ∈ WL := WL_in (tm2 (List.mem_of_getElem? (i := 41) (by decide +kernel))) rfl
theorem wk2_42 : Jvm.Cond.code ({ cls := "BooksMoved", name := "book", desc := "(III)I" } : Jvm.MethodName) prog_1_method_4_code (4 : Nat) (Option.some Jvm.ClassFile.FieldType.int) ∈ WL := WL_in (tm2 (List.mem_of_getElem? (i := 42) rfl)) rfl
theorem wk2_43 : Jvm.Cond.methodLink "BooksMoved" (74 : Nat) ({ cls := "BooksMoved$Mark", name := "read", desc := "(LBooksMoved$Tape;)V" } : Jvm.MethodName) ∈ WL := WL_in (tm2 (List.mem_of_getElem? (i := 43) (by decide +kernel))) rfl
theorem wk2_44 : Jvm.Cond.instanceMethod ({ cls := "BooksMoved$Mark", name := "read", desc := "(LBooksMoved$Tape;)V" } : Jvm.MethodName) ∈ WL := WL_in (tm2 (List.mem_of_getElem? (i := 44) (by decide +kernel))) rfl
theorem wk2_45 : Jvm.Cond.selects "BooksMoved$Mark" ({ cls := "BooksMoved$Mark", name := "read", desc := "(LBooksMoved$Tape;)V" } : Jvm.MethodName) ({ cls := "BooksMoved$Mark", name := "read", desc := "(LBooksMoved$Tape;)V" } : Jvm.MethodName) ∈ WL := WL_in (tm2 (List.mem_of_getElem? (i := 45) (by decide +kernel))) rfl
theorem wk2_46 : Jvm.Cond.code ({ cls := "BooksMoved$Mark", name := "read", desc := "(LBooksMoved$Tape;)V" } : Jvm.MethodName) prog_4_method_2_code (4 : Nat) (Option.none : Option Jvm.ClassFile.FieldType) ∈ WL := WL_in (tm2 (List.mem_of_getElem? (i := 46) rfl)) rfl
theorem wk2_47 : Jvm.Cond.methodLink "BooksMoved$Mark" (24 : Nat) ({ cls := "BooksMoved$Mark", name := "pastDigits", desc := "(LBooksMoved$Tape;I)I" } : Jvm.MethodName) ∈ WL := WL_in (tm2 (List.mem_of_getElem? (i := 47) (by decide +kernel))) rfl
theorem wk2_48 : Jvm.Cond.static ({ cls := "BooksMoved$Mark", name := "pastDigits", desc := "(LBooksMoved$Tape;I)I" } : Jvm.MethodName) ∈ WL := WL_in (tm2 (List.mem_of_getElem? (i := 48) (by decide +kernel))) rfl
theorem wk2_49 : Jvm.Cond.code ({ cls := "BooksMoved$Mark", name := "pastDigits", desc := "(LBooksMoved$Tape;I)I" } : Jvm.MethodName) prog_4_method_6_code (3 : Nat) (Option.some Jvm.ClassFile.FieldType.int) ∈ WL := WL_in (tm2 (List.mem_of_getElem? (i := 49) rfl)) rfl
theorem wk2_50 : Jvm.Cond.methodLink "BooksMoved$Mark" (61 : Nat) ({ cls := "BooksMoved$Tape", name := "digitAt", desc := "(I)Z" } : Jvm.MethodName) ∈ WL := WL_in (tm2 (List.mem_of_getElem? (i := 50) (by decide +kernel))) rfl
theorem wk2_51 : Jvm.Cond.instanceMethod ({ cls := "BooksMoved$Tape", name := "digitAt", desc := "(I)Z" } : Jvm.MethodName) ∈ WL := WL_in (tm2 (List.mem_of_getElem? (i := 51) (by decide +kernel))) rfl
theorem wk2_52 : Jvm.Cond.selects "BooksMoved$Tape" ({ cls := "BooksMoved$Tape", name := "digitAt", desc := "(I)Z" } : Jvm.MethodName) ({ cls := "BooksMoved$Tape", name := "digitAt", desc := "(I)Z" } : Jvm.MethodName) ∈ WL := WL_in (tm2 (List.mem_of_getElem? (i := 52) (by decide +kernel))) rfl
theorem wk2_53 : Jvm.Cond.code ({ cls := "BooksMoved$Tape", name := "digitAt", desc := "(I)Z" } : Jvm.MethodName) prog_7_method_4_code (2 : Nat) (Option.some Jvm.ClassFile.FieldType.boolean) ∈ WL := WL_in (tm2 (List.mem_of_getElem? (i := 53) rfl)) rfl
theorem wk2_54 : Jvm.Cond.methodLink "BooksMoved$Tape" (23 : Nat) ({ cls := "BooksMoved$Tape", name := "byteAt", desc := "(I)I" } : Jvm.MethodName) ∈ WL := WL_in (tm2 (List.mem_of_getElem? (i := 54) (by decide +kernel))) rfl
theorem wk2_55 : Jvm.Cond.instanceMethod ({ cls := "BooksMoved$Tape", name := "byteAt", desc := "(I)I" } : Jvm.MethodName) ∈ WL := WL_in (tm2 (List.mem_of_getElem? (i := 55) (by decide +kernel))) rfl
theorem wk2_56 : Jvm.Cond.selects "BooksMoved$Tape" ({ cls := "BooksMoved$Tape", name := "byteAt", desc := "(I)I" } : Jvm.MethodName) ({ cls := "BooksMoved$Tape", name := "byteAt", desc := "(I)I" } : Jvm.MethodName) ∈ WL := WL_in (tm2 (List.mem_of_getElem? (i := 56) (by decide +kernel))) rfl
theorem wk2_57 : Jvm.Cond.code ({ cls := "BooksMoved$Tape", name := "byteAt", desc := "(I)I" } : Jvm.MethodName) prog_7_method_3_code (2 : Nat) (Option.some Jvm.ClassFile.FieldType.int) ∈ WL := WL_in (tm2 (List.mem_of_getElem? (i := 57) rfl)) rfl
theorem wk2_59 : Jvm.Cond.methodLink "BooksMoved$Mark" (28 : Nat) ({ cls := "BooksMoved$Mark", name := "valueOf", desc := "(LBooksMoved$Tape;II)I" } : Jvm.MethodName) ∈ WL := WL_in (tm2 (List.mem_of_getElem? (i := 59) (by decide +kernel))) rfl
theorem wk2_60 : Jvm.Cond.static ({ cls := "BooksMoved$Mark", name := "valueOf", desc := "(LBooksMoved$Tape;II)I" } : Jvm.MethodName) ∈ WL := WL_in (tm2 (List.mem_of_getElem? (i := 60) (by decide +kernel))) rfl
theorem wk2_61 : Jvm.Cond.code ({ cls := "BooksMoved$Mark", name := "valueOf", desc := "(LBooksMoved$Tape;II)I" } : Jvm.MethodName) prog_4_method_8_code (5 : Nat) (Option.some Jvm.ClassFile.FieldType.int) ∈ WL := WL_in (tm2 (List.mem_of_getElem? (i := 61) rfl)) rfl
theorem wk2_62 : Jvm.Cond.methodLink "BooksMoved$Mark" (35 : Nat) ({ cls := "BooksMoved$Tape", name := "byteAt", desc := "(I)I" } : Jvm.MethodName) ∈ WL := WL_in (tm2 (List.mem_of_getElem? (i := 62) (by decide +kernel))) rfl
theorem wk2_63 : Jvm.Cond.methodLink "BooksMoved$Mark" (41 : Nat) ({ cls := "BooksMoved$Mark", name := "readBehind", desc := "(LBooksMoved$Tape;II)V" } : Jvm.MethodName) ∈ WL := WL_in (tm2 (List.mem_of_getElem? (i := 63) (by decide +kernel))) rfl
theorem wk2_65 : Jvm.Cond.instanceMethod ({ cls := "BooksMoved$Mark", name := "readBehind", desc := "(LBooksMoved$Tape;II)V" } : Jvm.MethodName) ∈ WL := WL_in (tm2 (List.mem_of_getElem? (i := 65) (by decide +kernel))) rfl
theorem wk2_66 : Jvm.Cond.code ({ cls := "BooksMoved$Mark", name := "readBehind", desc := "(LBooksMoved$Tape;II)V" } : Jvm.MethodName) prog_4_method_4_code (5 : Nat) (Option.none : Option Jvm.ClassFile.FieldType) ∈ WL := WL_in (tm2 (List.mem_of_getElem? (i := 66) rfl)) rfl
theorem wk2_67 : Jvm.Cond.methodLink "BooksMoved$Mark" (45 : Nat) ({ cls := "BooksMoved$Mark", name := "pastLetters", desc := "(LBooksMoved$Tape;I)I" } : Jvm.MethodName) ∈ WL := WL_in (tm2 (List.mem_of_getElem? (i := 67) (by decide +kernel))) rfl
theorem wk2_68 : Jvm.Cond.static ({ cls := "BooksMoved$Mark", name := "pastLetters", desc := "(LBooksMoved$Tape;I)I" } : Jvm.MethodName) ∈ WL := WL_in (tm2 (List.mem_of_getElem? (i := 68) (by decide +kernel))) rfl
theorem wk2_69 : Jvm.Cond.code ({ cls := "BooksMoved$Mark", name := "pastLetters", desc := "(LBooksMoved$Tape;I)I" } : Jvm.MethodName) prog_4_method_7_code (3 : Nat) (Option.some Jvm.ClassFile.FieldType.int) ∈ WL := WL_in (tm2 (List.mem_of_getElem? (i := 69) rfl)) rfl
theorem wk2_70 : Jvm.Cond.methodLink "BooksMoved$Mark" (65 : Nat) ({ cls := "BooksMoved$Tape", name := "letterAt", desc := "(I)Z" } : Jvm.MethodName) ∈ WL := WL_in (tm2 (List.mem_of_getElem? (i := 70) (by decide +kernel))) rfl
theorem wk2_71 : Jvm.Cond.instanceMethod ({ cls := "BooksMoved$Tape", name := "letterAt", desc := "(I)Z" } : Jvm.MethodName) ∈ WL := WL_in (tm2 (List.mem_of_getElem? (i := 71) (by decide +kernel))) rfl
theorem wk2_72 : Jvm.Cond.selects "BooksMoved$Tape" ({ cls := "BooksMoved$Tape", name := "letterAt", desc := "(I)Z" } : Jvm.MethodName) ({ cls := "BooksMoved$Tape", name := "letterAt", desc := "(I)Z" } : Jvm.MethodName) ∈ WL := WL_in (tm2 (List.mem_of_getElem? (i := 72) (by decide +kernel))) rfl
theorem wk2_73 : Jvm.Cond.code ({ cls := "BooksMoved$Tape", name := "letterAt", desc := "(I)Z" } : Jvm.MethodName) prog_7_method_5_code (2 : Nat) (Option.some Jvm.ClassFile.FieldType.boolean) ∈ WL := WL_in (tm2 (List.mem_of_getElem? (i := 73) rfl)) rfl
theorem wk2_74 : Jvm.Cond.methodLink "BooksMoved$Mark" (48 : Nat) ({ cls := "BooksMoved$Mark", name := "readLetters", desc := "(LBooksMoved$Tape;II)V" } : Jvm.MethodName) ∈ WL := WL_in (tm2 (List.mem_of_getElem? (i := 74) (by decide +kernel))) rfl
theorem wk2_76 : Jvm.Cond.instanceMethod ({ cls := "BooksMoved$Mark", name := "readLetters", desc := "(LBooksMoved$Tape;II)V" } : Jvm.MethodName) ∈ WL := WL_in (tm2 (List.mem_of_getElem? (i := 76) (by decide +kernel))) rfl
theorem wk2_77 : Jvm.Cond.code ({ cls := "BooksMoved$Mark", name := "readLetters", desc := "(LBooksMoved$Tape;II)V" } : Jvm.MethodName) prog_4_method_5_code (5 : Nat) (Option.none : Option Jvm.ClassFile.FieldType) ∈ WL := WL_in (tm2 (List.mem_of_getElem? (i := 77) rfl)) rfl
theorem wk2_78 : Jvm.Cond.methodLink "BooksMoved" (81 : Nat) ({ cls := "BooksMoved", name := "forgetWhatFollows", desc := "()V" } : Jvm.MethodName) ∈ WL := WL_in (tm2 (List.mem_of_getElem? (i := 78) (by decide +kernel))) rfl
theorem wk2_80 : Jvm.Cond.instanceMethod ({ cls := "BooksMoved", name := "forgetWhatFollows", desc := "()V" } : Jvm.MethodName) ∈ WL := WL_in (tm2 (List.mem_of_getElem? (i := 80) (by decide +kernel))) rfl
theorem wk2_81 : Jvm.Cond.code ({ cls := "BooksMoved", name := "forgetWhatFollows", desc := "()V" } : Jvm.MethodName) prog_1_method_28_code (1 : Nat) (Option.none : Option Jvm.ClassFile.FieldType) ∈ WL := WL_in (tm2 (List.mem_of_getElem? (i := 81) rfl)) rfl
theorem wk2_82 : Jvm.Cond.methodLink "BooksMoved" (84 : Nat) ({ cls := "BooksMoved$Books", name := "add", desc := "(LBooksMoved$Mark;III)I" } : Jvm.MethodName) ∈ WL := WL_in (tm2 (List.mem_of_getElem? (i := 82) (by decide +kernel))) rfl
theorem wk2_83 : Jvm.Cond.instanceMethod ({ cls := "BooksMoved$Books", name := "add", desc := "(LBooksMoved$Mark;III)I" } : Jvm.MethodName) ∈ WL := WL_in (tm2 (List.mem_of_getElem? (i := 83) (by decide +kernel))) rfl
theorem wk2_84 : Jvm.Cond.selects "BooksMoved$Books" ({ cls := "BooksMoved$Books", name := "add", desc := "(LBooksMoved$Mark;III)I" } : Jvm.MethodName) ({ cls := "BooksMoved$Books", name := "add", desc := "(LBooksMoved$Mark;III)I" } : Jvm.MethodName) ∈ WL := WL_in (tm2 (List.mem_of_getElem? (i := 84) (by decide +kernel))) rfl
theorem wk2_85 : Jvm.Cond.code ({ cls := "BooksMoved$Books", name := "add", desc := "(LBooksMoved$Mark;III)I" } : Jvm.MethodName) prog_2_method_3_code (7 : Nat) (Option.some Jvm.ClassFile.FieldType.int) ∈ WL := WL_in (tm2 (List.mem_of_getElem? (i := 85) rfl)) rfl
theorem wk2_86 : Jvm.Cond.methodLink "BooksMoved$Books" (50 : Nat) ({ cls := "BooksMoved$Mark", name := "keyBy", desc := "(I)J" } : Jvm.MethodName) ∈ WL := WL_in (tm2 (List.mem_of_getElem? (i := 86) (by decide +kernel))) rfl
theorem wk2_87 : Jvm.Cond.instanceMethod ({ cls := "BooksMoved$Mark", name := "keyBy", desc := "(I)J" } : Jvm.MethodName) ∈ WL := WL_in (tm2 (List.mem_of_getElem? (i := 87) (by decide +kernel))) rfl
theorem wk2_88 : Jvm.Cond.selects "BooksMoved$Mark" ({ cls := "BooksMoved$Mark", name := "keyBy", desc := "(I)J" } : Jvm.MethodName) ({ cls := "BooksMoved$Mark", name := "keyBy", desc := "(I)J" } : Jvm.MethodName) ∈ WL := WL_in (tm2 (List.mem_of_getElem? (i := 88) (by decide +kernel))) rfl
theorem wk2_89 : Jvm.Cond.code ({ cls := "BooksMoved$Mark", name := "keyBy", desc := "(I)J" } : Jvm.MethodName) prog_4_method_3_code (3 : Nat) (Option.some Jvm.ClassFile.FieldType.long) ∈ WL := WL_in (tm2 (List.mem_of_getElem? (i := 89) rfl)) rfl
theorem wk2_90 : Jvm.Cond.constantLong "BooksMoved$Mark" (54 : Nat) (50000 : Int64) ∈ WL := WL_in (tm2 (List.mem_of_getElem? (i := 90) (by decide +kernel))) rfl
theorem wk2_91 : Jvm.Cond.constantLong "BooksMoved$Mark" (56 : Nat) (19683 : Int64) ∈ WL := WL_in (tm2 (List.mem_of_getElem? (i := 91) (by decide +kernel))) rfl
theorem wk2_92 : Jvm.Cond.methodLink "BooksMoved$Books" (54 : Nat) ({ cls := "BooksMoved$Books", name := "putInOrder", desc := "(II)V" } : Jvm.MethodName) ∈ WL := WL_in (tm2 (List.mem_of_getElem? (i := 92) (by decide +kernel))) rfl
theorem wk2_94 : Jvm.Cond.instanceMethod ({ cls := "BooksMoved$Books", name := "putInOrder", desc := "(II)V" } : Jvm.MethodName) ∈ WL := WL_in (tm2 (List.mem_of_getElem? (i := 94) (by decide +kernel))) rfl
theorem wk2_95 : Jvm.Cond.code ({ cls := "BooksMoved$Books", name := "putInOrder", desc := "(II)V" } : Jvm.MethodName) prog_2_method_5_code (4 : Nat) (Option.none : Option Jvm.ClassFile.FieldType) ∈ WL := WL_in (tm2 (List.mem_of_getElem? (i := 95) rfl)) rfl
theorem wk2_96 : Jvm.Cond.methodLink "BooksMoved$Books" (62 : Nat) ({ cls := "BooksMoved$Books", name := "sign", desc := "(III)I" } : Jvm.MethodName) ∈ WL := WL_in (tm2 (List.mem_of_getElem? (i := 96) (by decide +kernel))) rfl
theorem wk2_97 : Jvm.Cond.instanceMethod ({ cls := "BooksMoved$Books", name := "sign", desc := "(III)I" } : Jvm.MethodName) ∈ WL := WL_in (tm2 (List.mem_of_getElem? (i := 97) (by decide +kernel))) rfl
theorem wk2_98 : Jvm.Cond.selects "BooksMoved$Books" ({ cls := "BooksMoved$Books", name := "sign", desc := "(III)I" } : Jvm.MethodName) ({ cls := "BooksMoved$Books", name := "sign", desc := "(III)I" } : Jvm.MethodName) ∈ WL := WL_in (tm2 (List.mem_of_getElem? (i := 98) (by decide +kernel))) rfl
theorem wk2_99 : Jvm.Cond.code ({ cls := "BooksMoved$Books", name := "sign", desc := "(III)I" } : Jvm.MethodName) prog_2_method_4_code (8 : Nat) (Option.some Jvm.ClassFile.FieldType.int) ∈ WL := WL_in (tm2 (List.mem_of_getElem? (i := 99) rfl)) rfl
theorem wk2_100 : Jvm.Cond.methodLink "BooksMoved$Books" (58 : Nat) ({ cls := "BooksMoved$Books", name := "quarrelsWithEarlier", desc := "(I)I" } : Jvm.MethodName) ∈ WL := WL_in (tm2 (List.mem_of_getElem? (i := 100) (by decide +kernel))) rfl
theorem wk2_102 : Jvm.Cond.instanceMethod ({ cls := "BooksMoved$Books", name := "quarrelsWithEarlier", desc := "(I)I" } : Jvm.MethodName) ∈ WL := WL_in (tm2 (List.mem_of_getElem? (i := 102) (by decide +kernel))) rfl
theorem wk2_103 : Jvm.Cond.code ({ cls := "BooksMoved$Books", name := "quarrelsWithEarlier", desc := "(I)I" } : Jvm.MethodName) prog_2_method_6_code (4 : Nat) (Option.some Jvm.ClassFile.FieldType.int) ∈ WL := WL_in (tm2 (List.mem_of_getElem? (i := 103) rfl)) rfl
theorem wk2_104 : Jvm.Cond.methodLink "BooksMovedLaw" (28 : Nat) ({ cls := "BooksMoved", name := "wrong", desc := "()I" } : Jvm.MethodName) ∈ WL := WL_in (tm2 (List.mem_of_getElem? (i := 104) (by decide +kernel))) rfl
theorem wk2_105 : Jvm.Cond.instanceMethod ({ cls := "BooksMoved", name := "wrong", desc := "()I" } : Jvm.MethodName) ∈ WL := WL_in (tm2 (List.mem_of_getElem? (i := 105) (by decide +kernel))) rfl
theorem wk2_106 : Jvm.Cond.selects "BooksMoved" ({ cls := "BooksMoved", name := "wrong", desc := "()I" } : Jvm.MethodName) ({ cls := "BooksMoved", name := "wrong", desc := "()I" } : Jvm.MethodName) ∈ WL := WL_in (tm2 (List.mem_of_getElem? (i := 106) (by decide +kernel))) rfl
theorem wk2_107 : Jvm.Cond.code ({ cls := "BooksMoved", name := "wrong", desc := "()I" } : Jvm.MethodName) prog_1_method_5_code (1 : Nat) (Option.some Jvm.ClassFile.FieldType.int) ∈ WL := WL_in (tm2 (List.mem_of_getElem? (i := 107) rfl)) rfl
theorem wk2_108 : Jvm.Cond.methodLink "BooksMovedLaw" (33 : Nat) ({ cls := "BooksMoved", name := "rule", desc := "(I)Z" } : Jvm.MethodName) ∈ WL := WL_in (tm2 (List.mem_of_getElem? (i := 108) (by decide +kernel))) rfl
theorem wk2_109 : Jvm.Cond.instanceMethod ({ cls := "BooksMoved", name := "rule", desc := "(I)Z" } : Jvm.MethodName) ∈ WL := WL_in (tm2 (List.mem_of_getElem? (i := 109) (by decide +kernel))) rfl
theorem wk2_110 : Jvm.Cond.selects "BooksMoved" ({ cls := "BooksMoved", name := "rule", desc := "(I)Z" } : Jvm.MethodName) ({ cls := "BooksMoved", name := "rule", desc := "(I)Z" } : Jvm.MethodName) ∈ WL := WL_in (tm2 (List.mem_of_getElem? (i := 110) (by decide +kernel))) rfl
theorem wk2_111 : Jvm.Cond.code ({ cls := "BooksMoved", name := "rule", desc := "(I)Z" } : Jvm.MethodName) prog_1_method_6_code (2 : Nat) (Option.some Jvm.ClassFile.FieldType.boolean) ∈ WL := WL_in (tm2 (List.mem_of_getElem? (i := 111) rfl)) rfl
theorem wk2_112 : Jvm.Cond.methodLink "BooksMoved" (88 : Nat) ({ cls := "BooksMoved", name := "isRule", desc := "(I)Z" } : Jvm.MethodName) ∈ WL := WL_in (tm2 (List.mem_of_getElem? (i := 112) (by decide +kernel))) rfl
theorem wk2_113 : Jvm.Cond.static ({ cls := "BooksMoved", name := "isRule", desc := "(I)Z" } : Jvm.MethodName) ∈ WL := WL_in (tm2 (List.mem_of_getElem? (i := 113) (by decide +kernel))) rfl
theorem wk2_114 : Jvm.Cond.code ({ cls := "BooksMoved", name := "isRule", desc := "(I)Z" } : Jvm.MethodName) prog_1_method_27_code (1 : Nat) (Option.some Jvm.ClassFile.FieldType.boolean) ∈ WL := WL_in (tm2 (List.mem_of_getElem? (i := 114) rfl)) rfl
theorem wk2_115 : Jvm.Cond.methodLink "BooksMovedLaw" (38 : Nat) ({ cls := "BooksMoved", name := "compare", desc := "(III)I" } : Jvm.MethodName) ∈ WL := WL_in (tm2 (List.mem_of_getElem? (i := 115) (by decide +kernel))) rfl
theorem wk2_116 : Jvm.Cond.instanceMethod ({ cls := "BooksMoved", name := "compare", desc := "(III)I" } : Jvm.MethodName) ∈ WL := WL_in (tm2 (List.mem_of_getElem? (i := 116) (by decide +kernel))) rfl
theorem wk2_117 : Jvm.Cond.selects "BooksMoved" ({ cls := "BooksMoved", name := "compare", desc := "(III)I" } : Jvm.MethodName) ({ cls := "BooksMoved", name := "compare", desc := "(III)I" } : Jvm.MethodName) ∈ WL := WL_in (tm2 (List.mem_of_getElem? (i := 117) (by decide +kernel))) rfl
theorem wk2_118 : Jvm.Cond.code ({ cls := "BooksMoved", name := "compare", desc := "(III)I" } : Jvm.MethodName) prog_1_method_7_code (4 : Nat) (Option.some Jvm.ClassFile.FieldType.int) ∈ WL := WL_in (tm2 (List.mem_of_getElem? (i := 118) rfl)) rfl
theorem wk2_119 : Jvm.Cond.methodLink "BooksMoved" (92 : Nat) ({ cls := "BooksMoved$Books", name := "has", desc := "(I)Z" } : Jvm.MethodName) ∈ WL := WL_in (tm2 (List.mem_of_getElem? (i := 119) (by decide +kernel))) rfl
theorem wk2_120 : Jvm.Cond.instanceMethod ({ cls := "BooksMoved$Books", name := "has", desc := "(I)Z" } : Jvm.MethodName) ∈ WL := WL_in (tm2 (List.mem_of_getElem? (i := 120) (by decide +kernel))) rfl
theorem wk2_121 : Jvm.Cond.selects "BooksMoved$Books" ({ cls := "BooksMoved$Books", name := "has", desc := "(I)Z" } : Jvm.MethodName) ({ cls := "BooksMoved$Books", name := "has", desc := "(I)Z" } : Jvm.MethodName) ∈ WL := WL_in (tm2 (List.mem_of_getElem? (i := 121) (by decide +kernel))) rfl
theorem wk2_122 : Jvm.Cond.code ({ cls := "BooksMoved$Books", name := "has", desc := "(I)Z" } : Jvm.MethodName) prog_2_method_2_code (2 : Nat) (Option.some Jvm.ClassFile.FieldType.boolean) ∈ WL := WL_in (tm2 (List.mem_of_getElem? (i := 122) rfl)) rfl
theorem wk2_124 : Jvm.Cond.methodLink "BooksMoved" (95 : Nat) ({ cls := "BooksMoved$Books", name := "sign", desc := "(III)I" } : Jvm.MethodName) ∈ WL := WL_in (tm2 (List.mem_of_getElem? (i := 124) (by decide +kernel))) rfl
theorem wk2_125 : Jvm.Cond.methodLink "BooksMovedLaw" (42 : Nat) ({ cls := "BooksMoved", name := "ordered", desc := "(II)I" } : Jvm.MethodName) ∈ WL := WL_in (tm2 (List.mem_of_getElem? (i := 125) (by decide +kernel))) rfl
theorem wk2_126 : Jvm.Cond.instanceMethod ({ cls := "BooksMoved", name := "ordered", desc := "(II)I" } : Jvm.MethodName) ∈ WL := WL_in (tm2 (List.mem_of_getElem? (i := 126) (by decide +kernel))) rfl
theorem wk2_127 : Jvm.Cond.selects "BooksMoved" ({ cls := "BooksMoved", name := "ordered", desc := "(II)I" } : Jvm.MethodName) ({ cls := "BooksMoved", name := "ordered", desc := "(II)I" } : Jvm.MethodName) ∈ WL := WL_in (tm2 (List.mem_of_getElem? (i := 127) (by decide +kernel))) rfl
theorem wk2_128 : Jvm.Cond.code ({ cls := "BooksMoved", name := "ordered", desc := "(II)I" } : Jvm.MethodName) prog_1_method_8_code (3 : Nat) (Option.some Jvm.ClassFile.FieldType.int) ∈ WL := WL_in (tm2 (List.mem_of_getElem? (i := 128) rfl)) rfl
theorem wk2_129 : Jvm.Cond.methodLink "BooksMovedLaw" (47 : Nat) ({ cls := "BooksMoved", name := "quarrels", desc := "()I" } : Jvm.MethodName) ∈ WL := WL_in (tm2 (List.mem_of_getElem? (i := 129) (by decide +kernel))) rfl
theorem wk2_130 : Jvm.Cond.instanceMethod ({ cls := "BooksMoved", name := "quarrels", desc := "()I" } : Jvm.MethodName) ∈ WL := WL_in (tm2 (List.mem_of_getElem? (i := 130) (by decide +kernel))) rfl
theorem wk2_131 : Jvm.Cond.selects "BooksMoved" ({ cls := "BooksMoved", name := "quarrels", desc := "()I" } : Jvm.MethodName) ({ cls := "BooksMoved", name := "quarrels", desc := "()I" } : Jvm.MethodName) ∈ WL := WL_in (tm2 (List.mem_of_getElem? (i := 131) (by decide +kernel))) rfl
theorem wk2_132 : Jvm.Cond.code ({ cls := "BooksMoved", name := "quarrels", desc := "()I" } : Jvm.MethodName) prog_1_method_9_code (1 : Nat) (Option.some Jvm.ClassFile.FieldType.int) ∈ WL := WL_in (tm2 (List.mem_of_getElem? (i := 132) rfl)) rfl
theorem wk2_133 : Jvm.Cond.methodLink "BooksMovedLaw" (51 : Nat) ({ cls := "BooksMoved", name := "shelf", desc := "(I)I" } : Jvm.MethodName) ∈ WL := WL_in (tm2 (List.mem_of_getElem? (i := 133) (by decide +kernel))) rfl
theorem wk2_134 : Jvm.Cond.instanceMethod ({ cls := "BooksMoved", name := "shelf", desc := "(I)I" } : Jvm.MethodName) ∈ WL := WL_in (tm2 (List.mem_of_getElem? (i := 134) (by decide +kernel))) rfl
theorem wk2_135 : Jvm.Cond.selects "BooksMoved" ({ cls := "BooksMoved", name := "shelf", desc := "(I)I" } : Jvm.MethodName) ({ cls := "BooksMoved", name := "shelf", desc := "(I)I" } : Jvm.MethodName) ∈ WL := WL_in (tm2 (List.mem_of_getElem? (i := 135) (by decide +kernel))) rfl
theorem wk2_136 : Jvm.Cond.code ({ cls := "BooksMoved", name := "shelf", desc := "(I)I" } : Jvm.MethodName) prog_1_method_10_code (2 : Nat) (Option.some Jvm.ClassFile.FieldType.int) ∈ WL := WL_in (tm2 (List.mem_of_getElem? (i := 136) rfl)) rfl
theorem wk2_137 : Jvm.Cond.methodLink "BooksMoved" (107 : Nat) ({ cls := "BooksMoved$Shelves", name := "add", desc := "(I)I" } : Jvm.MethodName) ∈ WL := WL_in (tm2 (List.mem_of_getElem? (i := 137) (by decide +kernel))) rfl
theorem wk2_138 : Jvm.Cond.instanceMethod ({ cls := "BooksMoved$Shelves", name := "add", desc := "(I)I" } : Jvm.MethodName) ∈ WL := WL_in (tm2 (List.mem_of_getElem? (i := 138) (by decide +kernel))) rfl
theorem wk2_139 : Jvm.Cond.selects "BooksMoved$Shelves" ({ cls := "BooksMoved$Shelves", name := "add", desc := "(I)I" } : Jvm.MethodName) ({ cls := "BooksMoved$Shelves", name := "add", desc := "(I)I" } : Jvm.MethodName) ∈ WL := WL_in (tm2 (List.mem_of_getElem? (i := 139) (by decide +kernel))) rfl
theorem wk2_140 : Jvm.Cond.code ({ cls := "BooksMoved$Shelves", name := "add", desc := "(I)I" } : Jvm.MethodName) prog_6_method_2_code (2 : Nat) (Option.some Jvm.ClassFile.FieldType.int) ∈ WL := WL_in (tm2 (List.mem_of_getElem? (i := 140) rfl)) rfl
theorem wk2_141 : Jvm.Cond.methodLink "BooksMovedLaw" (55 : Nat) ({ cls := "BooksMoved", name := "sizes", desc := "(II)Z" } : Jvm.MethodName) ∈ WL := WL_in (tm2 (List.mem_of_getElem? (i := 141) (by decide +kernel))) rfl
theorem wk2_142 : Jvm.Cond.instanceMethod ({ cls := "BooksMoved", name := "sizes", desc := "(II)Z" } : Jvm.MethodName) ∈ WL := WL_in (tm2 (List.mem_of_getElem? (i := 142) (by decide +kernel))) rfl
theorem wk2_143 : Jvm.Cond.selects "BooksMoved" ({ cls := "BooksMoved", name := "sizes", desc := "(II)Z" } : Jvm.MethodName) ({ cls := "BooksMoved", name := "sizes", desc := "(II)Z" } : Jvm.MethodName) ∈ WL := WL_in (tm2 (List.mem_of_getElem? (i := 143) (by decide +kernel))) rfl
theorem wk2_144 : Jvm.Cond.code ({ cls := "BooksMoved", name := "sizes", desc := "(II)Z" } : Jvm.MethodName) prog_1_method_11_code (3 : Nat) (Option.some Jvm.ClassFile.FieldType.boolean) ∈ WL := WL_in (tm2 (List.mem_of_getElem? (i := 144) rfl)) rfl
theorem wk2_145 : Jvm.Cond.methodLink "BooksMovedLaw" (60 : Nat) ({ cls := "BooksMoved", name := "laid", desc := "(II)I" } : Jvm.MethodName) ∈ WL := WL_in (tm2 (List.mem_of_getElem? (i := 145) (by decide +kernel))) rfl
theorem wk2_146 : Jvm.Cond.instanceMethod ({ cls := "BooksMoved", name := "laid", desc := "(II)I" } : Jvm.MethodName) ∈ WL := WL_in (tm2 (List.mem_of_getElem? (i := 146) (by decide +kernel))) rfl
theorem wk2_147 : Jvm.Cond.selects "BooksMoved" ({ cls := "BooksMoved", name := "laid", desc := "(II)I" } : Jvm.MethodName) ({ cls := "BooksMoved", name := "laid", desc := "(II)I" } : Jvm.MethodName) ∈ WL := WL_in (tm2 (List.mem_of_getElem? (i := 147) (by decide +kernel))) rfl
theorem wk2_148 : Jvm.Cond.code ({ cls := "BooksMoved", name := "laid", desc := "(II)I" } : Jvm.MethodName) prog_1_method_12_code (3 : Nat) (Option.some Jvm.ClassFile.FieldType.int) ∈ WL := WL_in (tm2 (List.mem_of_getElem? (i := 148) rfl)) rfl
theorem wk2_149 : Jvm.Cond.methodLink "BooksMoved" (120 : Nat) ({ cls := "BooksMoved", name := "makePlans", desc := "()V" } : Jvm.MethodName) ∈ WL := WL_in (tm2 (List.mem_of_getElem? (i := 149) (by decide +kernel))) rfl
theorem wk2_151 : Jvm.Cond.instanceMethod ({ cls := "BooksMoved", name := "makePlans", desc := "()V" } : Jvm.MethodName) ∈ WL := WL_in (tm2 (List.mem_of_getElem? (i := 151) (by decide +kernel))) rfl
theorem wk2_152 : Jvm.Cond.code ({ cls := "BooksMoved", name := "makePlans", desc := "()V" } : Jvm.MethodName) prog_1_method_29_code (1 : Nat) (Option.none : Option Jvm.ClassFile.FieldType) ∈ WL := WL_in (tm2 (List.mem_of_getElem? (i := 152) rfl)) rfl
theorem wk2_153 : Jvm.Cond.methodLink "BooksMoved" (207 : Nat) ({ cls := "BooksMoved$Shelves", name := "lay", desc := "(LBooksMoved$Books;I)V" } : Jvm.MethodName) ∈ WL := WL_in (tm2 (List.mem_of_getElem? (i := 153) (by decide +kernel))) rfl
theorem wk2_154 : Jvm.Cond.instanceMethod ({ cls := "BooksMoved$Shelves", name := "lay", desc := "(LBooksMoved$Books;I)V" } : Jvm.MethodName) ∈ WL := WL_in (tm2 (List.mem_of_getElem? (i := 154) (by decide +kernel))) rfl
theorem wk2_155 : Jvm.Cond.selects "BooksMoved$Shelves" ({ cls := "BooksMoved$Shelves", name := "lay", desc := "(LBooksMoved$Books;I)V" } : Jvm.MethodName) ({ cls := "BooksMoved$Shelves", name := "lay", desc := "(LBooksMoved$Books;I)V" } : Jvm.MethodName) ∈ WL := WL_in (tm2 (List.mem_of_getElem? (i := 155) (by decide +kernel))) rfl
theorem wk2_156 : Jvm.Cond.code ({ cls := "BooksMoved$Shelves", name := "lay", desc := "(LBooksMoved$Books;I)V" } : Jvm.MethodName) prog_6_method_4_code (7 : Nat) (Option.none : Option Jvm.ClassFile.FieldType) ∈ WL := WL_in (tm2 (List.mem_of_getElem? (i := 156) rfl)) rfl
theorem wk2_157 : Jvm.Cond.methodLink "BooksMoved$Shelves" (43 : Nat) ({ cls := "BooksMoved$Shelves", name := "clear", desc := "()V" } : Jvm.MethodName) ∈ WL := WL_in (tm2 (List.mem_of_getElem? (i := 157) (by decide +kernel))) rfl
theorem wk2_159 : Jvm.Cond.instanceMethod ({ cls := "BooksMoved$Shelves", name := "clear", desc := "()V" } : Jvm.MethodName) ∈ WL := WL_in (tm2 (List.mem_of_getElem? (i := 159) (by decide +kernel))) rfl
theorem wk2_160 : Jvm.Cond.code ({ cls := "BooksMoved$Shelves", name := "clear", desc := "()V" } : Jvm.MethodName) prog_6_method_5_code (2 : Nat) (Option.none : Option Jvm.ClassFile.FieldType) ∈ WL := WL_in (tm2 (List.mem_of_getElem? (i := 160) rfl)) rfl
theorem wk2_161 : Jvm.Cond.methodLink "BooksMoved$Shelves" (62 : Nat) ({ cls := "BooksMoved$Shelves", name := "room", desc := "(I)I" } : Jvm.MethodName) ∈ WL := WL_in (tm2 (List.mem_of_getElem? (i := 161) (by decide +kernel))) rfl
theorem wk2_162 : Jvm.Cond.instanceMethod ({ cls := "BooksMoved$Shelves", name := "room", desc := "(I)I" } : Jvm.MethodName) ∈ WL := WL_in (tm2 (List.mem_of_getElem? (i := 162) (by decide +kernel))) rfl
theorem wk2_163 : Jvm.Cond.selects "BooksMoved$Shelves" ({ cls := "BooksMoved$Shelves", name := "room", desc := "(I)I" } : Jvm.MethodName) ({ cls := "BooksMoved$Shelves", name := "room", desc := "(I)I" } : Jvm.MethodName) ∈ WL := WL_in (tm2 (List.mem_of_getElem? (i := 163) (by decide +kernel))) rfl
theorem wk2_164 : Jvm.Cond.code ({ cls := "BooksMoved$Shelves", name := "room", desc := "(I)I" } : Jvm.MethodName) prog_6_method_3_code (2 : Nat) (Option.some Jvm.ClassFile.FieldType.int) ∈ WL := WL_in (tm2 (List.mem_of_getElem? (i := 164) rfl)) rfl
theorem wk2_165 : Jvm.Cond.methodLink "BooksMoved$Shelves" (66 : Nat) ({ cls := "BooksMoved$Shelves", name := "put", desc := "(III)V" } : Jvm.MethodName) ∈ WL := WL_in (tm2 (List.mem_of_getElem? (i := 165) (by decide +kernel))) rfl
theorem wk2_167 : Jvm.Cond.instanceMethod ({ cls := "BooksMoved$Shelves", name := "put", desc := "(III)V" } : Jvm.MethodName) ∈ WL := WL_in (tm2 (List.mem_of_getElem? (i := 167) (by decide +kernel))) rfl
theorem wk2_168 : Jvm.Cond.code ({ cls := "BooksMoved$Shelves", name := "put", desc := "(III)V" } : Jvm.MethodName) prog_6_method_6_code (4 : Nat) (Option.none : Option Jvm.ClassFile.FieldType) ∈ WL := WL_in (tm2 (List.mem_of_getElem? (i := 168) rfl)) rfl
theorem wk2_169 : Jvm.Cond.methodLink "BooksMoved" (211 : Nat) ({ cls := "BooksMoved$Crates", name := "pack", desc := "(LBooksMoved$Books;I)V" } : Jvm.MethodName) ∈ WL := WL_in (tm2 (List.mem_of_getElem? (i := 169) (by decide +kernel))) rfl
theorem wk2_170 : Jvm.Cond.instanceMethod ({ cls := "BooksMoved$Crates", name := "pack", desc := "(LBooksMoved$Books;I)V" } : Jvm.MethodName) ∈ WL := WL_in (tm2 (List.mem_of_getElem? (i := 170) (by decide +kernel))) rfl
theorem wk2_171 : Jvm.Cond.selects "BooksMoved$Crates" ({ cls := "BooksMoved$Crates", name := "pack", desc := "(LBooksMoved$Books;I)V" } : Jvm.MethodName) ({ cls := "BooksMoved$Crates", name := "pack", desc := "(LBooksMoved$Books;I)V" } : Jvm.MethodName) ∈ WL := WL_in (tm2 (List.mem_of_getElem? (i := 171) (by decide +kernel))) rfl
theorem wk2_172 : Jvm.Cond.code ({ cls := "BooksMoved$Crates", name := "pack", desc := "(LBooksMoved$Books;I)V" } : Jvm.MethodName) prog_3_method_2_code (7 : Nat) (Option.none : Option Jvm.ClassFile.FieldType) ∈ WL := WL_in (tm2 (List.mem_of_getElem? (i := 172) rfl)) rfl
theorem wk2_173 : Jvm.Cond.methodLink "BooksMoved" (214 : Nat) ({ cls := "BooksMoved$Crates", name := "meet", desc := "()V" } : Jvm.MethodName) ∈ WL := WL_in (tm2 (List.mem_of_getElem? (i := 173) (by decide +kernel))) rfl
theorem wk2_174 : Jvm.Cond.instanceMethod ({ cls := "BooksMoved$Crates", name := "meet", desc := "()V" } : Jvm.MethodName) ∈ WL := WL_in (tm2 (List.mem_of_getElem? (i := 174) (by decide +kernel))) rfl
theorem wk2_175 : Jvm.Cond.selects "BooksMoved$Crates" ({ cls := "BooksMoved$Crates", name := "meet", desc := "()V" } : Jvm.MethodName) ({ cls := "BooksMoved$Crates", name := "meet", desc := "()V" } : Jvm.MethodName) ∈ WL := WL_in (tm2 (List.mem_of_getElem? (i := 175) (by decide +kernel))) rfl
theorem wk2_176 : Jvm.Cond.code ({ cls := "BooksMoved$Crates", name := "meet", desc := "()V" } : Jvm.MethodName) prog_3_method_3_code (5 : Nat) (Option.none : Option Jvm.ClassFile.FieldType) ∈ WL := WL_in (tm2 (List.mem_of_getElem? (i := 176) rfl)) rfl
theorem wk2_177 : Jvm.Cond.methodLink "BooksMoved$Crates" (57 : Nat) ({ cls := "java/lang/Math", name := "max", desc := "(II)I" } : Jvm.MethodName) ∈ WL := WL_in (tm2 (List.mem_of_getElem? (i := 177) (by decide +kernel))) rfl
theorem wk2_178 : Jvm.Cond.static ({ cls := "java/lang/Math", name := "max", desc := "(II)I" } : Jvm.MethodName) ∈ WL := WL_in (tm2 (List.mem_of_getElem? (i := 178) (by decide +kernel))) rfl
theorem wk2_179 : Jvm.Cond.code ({ cls := "java/lang/Math", name := "max", desc := "(II)I" } : Jvm.MethodName) prog_10_method_65_code (2 : Nat) (Option.some Jvm.ClassFile.FieldType.int) ∈ WL := WL_in (tm2 (List.mem_of_getElem? (i := 179) rfl)) rfl
theorem wk2_180 : Jvm.Cond.methodLink "BooksMoved$Crates" (63 : Nat) ({ cls := "BooksMoved$Crates", name := "setMinutes", desc := "()V" } : Jvm.MethodName) ∈ WL := WL_in (tm2 (List.mem_of_getElem? (i := 180) (by decide +kernel))) rfl
theorem wk2_182 : Jvm.Cond.instanceMethod ({ cls := "BooksMoved$Crates", name := "setMinutes", desc := "()V" } : Jvm.MethodName) ∈ WL := WL_in (tm2 (List.mem_of_getElem? (i := 182) (by decide +kernel))) rfl
theorem wk2_183 : Jvm.Cond.code ({ cls := "BooksMoved$Crates", name := "setMinutes", desc := "()V" } : Jvm.MethodName) prog_3_method_6_code (3 : Nat) (Option.none : Option Jvm.ClassFile.FieldType) ∈ WL := WL_in (tm2 (List.mem_of_getElem? (i := 183) rfl)) rfl
theorem wk2_184 : Jvm.Cond.methodLink "BooksMoved$Crates" (66 : Nat) ({ cls := "BooksMoved$Crates", name := "carryFrom", desc := "(II)I" } : Jvm.MethodName) ∈ WL := WL_in (tm2 (List.mem_of_getElem? (i := 184) (by decide +kernel))) rfl
theorem wk2_186 : Jvm.Cond.instanceMethod ({ cls := "BooksMoved$Crates", name := "carryFrom", desc := "(II)I" } : Jvm.MethodName) ∈ WL := WL_in (tm2 (List.mem_of_getElem? (i := 186) (by decide +kernel))) rfl
theorem wk2_187 : Jvm.Cond.code ({ cls := "BooksMoved$Crates", name := "carryFrom", desc := "(II)I" } : Jvm.MethodName) prog_3_method_7_code (3 : Nat) (Option.some Jvm.ClassFile.FieldType.int) ∈ WL := WL_in (tm2 (List.mem_of_getElem? (i := 187) rfl)) rfl
theorem wk2_188 : Jvm.Cond.methodLink "BooksMovedLaw" (64 : Nat) ({ cls := "BooksMoved", name := "shelfOf", desc := "(II)I" } : Jvm.MethodName) ∈ WL := WL_in (tm2 (List.mem_of_getElem? (i := 188) (by decide +kernel))) rfl
theorem wk2_189 : Jvm.Cond.instanceMethod ({ cls := "BooksMoved", name := "shelfOf", desc := "(II)I" } : Jvm.MethodName) ∈ WL := WL_in (tm2 (List.mem_of_getElem? (i := 189) (by decide +kernel))) rfl
theorem wk2_190 : Jvm.Cond.selects "BooksMoved" ({ cls := "BooksMoved", name := "shelfOf", desc := "(II)I" } : Jvm.MethodName) ({ cls := "BooksMoved", name := "shelfOf", desc := "(II)I" } : Jvm.MethodName) ∈ WL := WL_in (tm2 (List.mem_of_getElem? (i := 190) (by decide +kernel))) rfl
theorem wk2_191 : Jvm.Cond.code ({ cls := "BooksMoved", name := "shelfOf", desc := "(II)I" } : Jvm.MethodName) prog_1_method_13_code (3 : Nat) (Option.some Jvm.ClassFile.FieldType.int) ∈ WL := WL_in (tm2 (List.mem_of_getElem? (i := 191) rfl)) rfl
theorem wk2_192 : Jvm.Cond.methodLink "BooksMoved" (132 : Nat) ({ cls := "BooksMoved$Shelves", name := "room", desc := "(I)I" } : Jvm.MethodName) ∈ WL := WL_in (tm2 (List.mem_of_getElem? (i := 192) (by decide +kernel))) rfl
theorem wk2_193 : Jvm.Cond.methodLink "BooksMovedLaw" (68 : Nat) ({ cls := "BooksMoved", name := "counts", desc := "(I)I" } : Jvm.MethodName) ∈ WL := WL_in (tm2 (List.mem_of_getElem? (i := 193) (by decide +kernel))) rfl
theorem wk2_194 : Jvm.Cond.instanceMethod ({ cls := "BooksMoved", name := "counts", desc := "(I)I" } : Jvm.MethodName) ∈ WL := WL_in (tm2 (List.mem_of_getElem? (i := 194) (by decide +kernel))) rfl
theorem wk2_195 : Jvm.Cond.selects "BooksMoved" ({ cls := "BooksMoved", name := "counts", desc := "(I)I" } : Jvm.MethodName) ({ cls := "BooksMoved", name := "counts", desc := "(I)I" } : Jvm.MethodName) ∈ WL := WL_in (tm2 (List.mem_of_getElem? (i := 195) (by decide +kernel))) rfl
theorem wk2_196 : Jvm.Cond.code ({ cls := "BooksMoved", name := "counts", desc := "(I)I" } : Jvm.MethodName) prog_1_method_14_code (2 : Nat) (Option.some Jvm.ClassFile.FieldType.int) ∈ WL := WL_in (tm2 (List.mem_of_getElem? (i := 196) rfl)) rfl
theorem wk2_197 : Jvm.Cond.methodLink "BooksMovedLaw" (72 : Nat) ({ cls := "BooksMoved", name := "way", desc := "(II)Z" } : Jvm.MethodName) ∈ WL := WL_in (tm2 (List.mem_of_getElem? (i := 197) (by decide +kernel))) rfl
theorem wk2_198 : Jvm.Cond.instanceMethod ({ cls := "BooksMoved", name := "way", desc := "(II)Z" } : Jvm.MethodName) ∈ WL := WL_in (tm2 (List.mem_of_getElem? (i := 198) (by decide +kernel))) rfl
theorem wk2_199 : Jvm.Cond.selects "BooksMoved" ({ cls := "BooksMoved", name := "way", desc := "(II)Z" } : Jvm.MethodName) ({ cls := "BooksMoved", name := "way", desc := "(II)Z" } : Jvm.MethodName) ∈ WL := WL_in (tm2 (List.mem_of_getElem? (i := 199) (by decide +kernel))) rfl
theorem wk2_200 : Jvm.Cond.code ({ cls := "BooksMoved", name := "way", desc := "(II)Z" } : Jvm.MethodName) prog_1_method_15_code (3 : Nat) (Option.some Jvm.ClassFile.FieldType.boolean) ∈ WL := WL_in (tm2 (List.mem_of_getElem? (i := 200) rfl)) rfl
theorem wk2_201 : Jvm.Cond.methodLink "BooksMovedLaw" (76 : Nat) ({ cls := "BooksMoved", name := "crate", desc := "(II)I" } : Jvm.MethodName) ∈ WL := WL_in (tm2 (List.mem_of_getElem? (i := 201) (by decide +kernel))) rfl
theorem wk2_202 : Jvm.Cond.instanceMethod ({ cls := "BooksMoved", name := "crate", desc := "(II)I" } : Jvm.MethodName) ∈ WL := WL_in (tm2 (List.mem_of_getElem? (i := 202) (by decide +kernel))) rfl
theorem wk2_203 : Jvm.Cond.selects "BooksMoved" ({ cls := "BooksMoved", name := "crate", desc := "(II)I" } : Jvm.MethodName) ({ cls := "BooksMoved", name := "crate", desc := "(II)I" } : Jvm.MethodName) ∈ WL := WL_in (tm2 (List.mem_of_getElem? (i := 203) (by decide +kernel))) rfl
theorem wk2_204 : Jvm.Cond.code ({ cls := "BooksMoved", name := "crate", desc := "(II)I" } : Jvm.MethodName) prog_1_method_16_code (3 : Nat) (Option.some Jvm.ClassFile.FieldType.int) ∈ WL := WL_in (tm2 (List.mem_of_getElem? (i := 204) rfl)) rfl
theorem wk2_205 : Jvm.Cond.methodLink "BooksMovedLaw" (80 : Nat) ({ cls := "BooksMoved", name := "meeting", desc := "(I)I" } : Jvm.MethodName) ∈ WL := WL_in (tm2 (List.mem_of_getElem? (i := 205) (by decide +kernel))) rfl
theorem wk2_206 : Jvm.Cond.instanceMethod ({ cls := "BooksMoved", name := "meeting", desc := "(I)I" } : Jvm.MethodName) ∈ WL := WL_in (tm2 (List.mem_of_getElem? (i := 206) (by decide +kernel))) rfl
theorem wk2_207 : Jvm.Cond.selects "BooksMoved" ({ cls := "BooksMoved", name := "meeting", desc := "(I)I" } : Jvm.MethodName) ({ cls := "BooksMoved", name := "meeting", desc := "(I)I" } : Jvm.MethodName) ∈ WL := WL_in (tm2 (List.mem_of_getElem? (i := 207) (by decide +kernel))) rfl
theorem wk2_208 : Jvm.Cond.code ({ cls := "BooksMoved", name := "meeting", desc := "(I)I" } : Jvm.MethodName) prog_1_method_17_code (2 : Nat) (Option.some Jvm.ClassFile.FieldType.int) ∈ WL := WL_in (tm2 (List.mem_of_getElem? (i := 208) rfl)) rfl
theorem wk2_209 : Jvm.Cond.methodLink "BooksMovedLaw" (84 : Nat) ({ cls := "BooksMoved", name := "where", desc := "(III)I" } : Jvm.MethodName) ∈ WL := WL_in (tm2 (List.mem_of_getElem? (i := 209) (by decide +kernel))) rfl
theorem wk2_210 : Jvm.Cond.instanceMethod ({ cls := "BooksMoved", name := "where", desc := "(III)I" } : Jvm.MethodName) ∈ WL := WL_in (tm2 (List.mem_of_getElem? (i := 210) (by decide +kernel))) rfl
theorem wk2_211 : Jvm.Cond.selects "BooksMoved" ({ cls := "BooksMoved", name := "where", desc := "(III)I" } : Jvm.MethodName) ({ cls := "BooksMoved", name := "where", desc := "(III)I" } : Jvm.MethodName) ∈ WL := WL_in (tm2 (List.mem_of_getElem? (i := 211) (by decide +kernel))) rfl
theorem wk2_212 : Jvm.Cond.code ({ cls := "BooksMoved", name := "where", desc := "(III)I" } : Jvm.MethodName) prog_1_method_18_code (4 : Nat) (Option.some Jvm.ClassFile.FieldType.int) ∈ WL := WL_in (tm2 (List.mem_of_getElem? (i := 212) rfl)) rfl
theorem wk2_213 : Jvm.Cond.constant "BooksMoved" (169 : Nat) (100000 : Int32) ∈ WL := WL_in (tm2 (List.mem_of_getElem? (i := 213) (by decide +kernel))) rfl
theorem wk2_214 : Jvm.Cond.methodLink "BooksMoved" (170 : Nat) ({ cls := "BooksMoved$Crates", name := "stageOf", desc := "(II)I" } : Jvm.MethodName) ∈ WL := WL_in (tm2 (List.mem_of_getElem? (i := 214) (by decide +kernel))) rfl
theorem wk2_215 : Jvm.Cond.instanceMethod ({ cls := "BooksMoved$Crates", name := "stageOf", desc := "(II)I" } : Jvm.MethodName) ∈ WL := WL_in (tm2 (List.mem_of_getElem? (i := 215) (by decide +kernel))) rfl
theorem wk2_216 : Jvm.Cond.selects "BooksMoved$Crates" ({ cls := "BooksMoved$Crates", name := "stageOf", desc := "(II)I" } : Jvm.MethodName) ({ cls := "BooksMoved$Crates", name := "stageOf", desc := "(II)I" } : Jvm.MethodName) ∈ WL := WL_in (tm2 (List.mem_of_getElem? (i := 216) (by decide +kernel))) rfl
theorem wk2_217 : Jvm.Cond.code ({ cls := "BooksMoved$Crates", name := "stageOf", desc := "(II)I" } : Jvm.MethodName) prog_3_method_4_code (4 : Nat) (Option.some Jvm.ClassFile.FieldType.int) ∈ WL := WL_in (tm2 (List.mem_of_getElem? (i := 217) rfl)) rfl
theorem wk2_218 : Jvm.Cond.methodLink "BooksMoved" (174 : Nat) ({ cls := "BooksMoved$Crates", name := "readerHas", desc := "(II)I" } : Jvm.MethodName) ∈ WL := WL_in (tm2 (List.mem_of_getElem? (i := 218) (by decide +kernel))) rfl
theorem wk2_219 : Jvm.Cond.instanceMethod ({ cls := "BooksMoved$Crates", name := "readerHas", desc := "(II)I" } : Jvm.MethodName) ∈ WL := WL_in (tm2 (List.mem_of_getElem? (i := 219) (by decide +kernel))) rfl
theorem wk2_220 : Jvm.Cond.selects "BooksMoved$Crates" ({ cls := "BooksMoved$Crates", name := "readerHas", desc := "(II)I" } : Jvm.MethodName) ({ cls := "BooksMoved$Crates", name := "readerHas", desc := "(II)I" } : Jvm.MethodName) ∈ WL := WL_in (tm2 (List.mem_of_getElem? (i := 220) (by decide +kernel))) rfl
theorem wk2_221 : Jvm.Cond.code ({ cls := "BooksMoved$Crates", name := "readerHas", desc := "(II)I" } : Jvm.MethodName) prog_3_method_5_code (5 : Nat) (Option.some Jvm.ClassFile.FieldType.int) ∈ WL := WL_in (tm2 (List.mem_of_getElem? (i := 221) rfl)) rfl
theorem wk2_222 : Jvm.Cond.methodLink "BooksMovedLaw" (88 : Nat) ({ cls := "BooksMoved", name := "row", desc := "()I" } : Jvm.MethodName) ∈ WL := WL_in (tm2 (List.mem_of_getElem? (i := 222) (by decide +kernel))) rfl
theorem wk2_223 : Jvm.Cond.instanceMethod ({ cls := "BooksMoved", name := "row", desc := "()I" } : Jvm.MethodName) ∈ WL := WL_in (tm2 (List.mem_of_getElem? (i := 223) (by decide +kernel))) rfl
theorem wk2_224 : Jvm.Cond.selects "BooksMoved" ({ cls := "BooksMoved", name := "row", desc := "()I" } : Jvm.MethodName) ({ cls := "BooksMoved", name := "row", desc := "()I" } : Jvm.MethodName) ∈ WL := WL_in (tm2 (List.mem_of_getElem? (i := 224) (by decide +kernel))) rfl
theorem wk2_225 : Jvm.Cond.code ({ cls := "BooksMoved", name := "row", desc := "()I" } : Jvm.MethodName) prog_1_method_19_code (1 : Nat) (Option.some Jvm.ClassFile.FieldType.int) ∈ WL := WL_in (tm2 (List.mem_of_getElem? (i := 225) rfl)) rfl
theorem wk2_226 : Jvm.Cond.methodLink "BooksMoved" (180 : Nat) ({ cls := "BooksMoved$Row", name := "fill", desc := "([II[I)V" } : Jvm.MethodName) ∈ WL := WL_in (tm2 (List.mem_of_getElem? (i := 226) (by decide +kernel))) rfl
theorem wk2_227 : Jvm.Cond.instanceMethod ({ cls := "BooksMoved$Row", name := "fill", desc := "([II[I)V" } : Jvm.MethodName) ∈ WL := WL_in (tm2 (List.mem_of_getElem? (i := 227) (by decide +kernel))) rfl
theorem wk2_228 : Jvm.Cond.selects "BooksMoved$Row" ({ cls := "BooksMoved$Row", name := "fill", desc := "([II[I)V" } : Jvm.MethodName) ({ cls := "BooksMoved$Row", name := "fill", desc := "([II[I)V" } : Jvm.MethodName) ∈ WL := WL_in (tm2 (List.mem_of_getElem? (i := 228) (by decide +kernel))) rfl
theorem wk2_229 : Jvm.Cond.code ({ cls := "BooksMoved$Row", name := "fill", desc := "([II[I)V" } : Jvm.MethodName) prog_5_method_3_code (5 : Nat) (Option.none : Option Jvm.ClassFile.FieldType) ∈ WL := WL_in (tm2 (List.mem_of_getElem? (i := 229) rfl)) rfl
theorem wk2_230 : Jvm.Cond.methodLink "BooksMovedLaw" (92 : Nat) ({ cls := "BooksMoved", name := "at", desc := "(I)I" } : Jvm.MethodName) ∈ WL := WL_in (tm2 (List.mem_of_getElem? (i := 230) (by decide +kernel))) rfl
theorem wk2_231 : Jvm.Cond.instanceMethod ({ cls := "BooksMoved", name := "at", desc := "(I)I" } : Jvm.MethodName) ∈ WL := WL_in (tm2 (List.mem_of_getElem? (i := 231) (by decide +kernel))) rfl
theorem wk2_232 : Jvm.Cond.selects "BooksMoved" ({ cls := "BooksMoved", name := "at", desc := "(I)I" } : Jvm.MethodName) ({ cls := "BooksMoved", name := "at", desc := "(I)I" } : Jvm.MethodName) ∈ WL := WL_in (tm2 (List.mem_of_getElem? (i := 232) (by decide +kernel))) rfl
theorem wk2_233 : Jvm.Cond.code ({ cls := "BooksMoved", name := "at", desc := "(I)I" } : Jvm.MethodName) prog_1_method_20_code (2 : Nat) (Option.some Jvm.ClassFile.FieldType.int) ∈ WL := WL_in (tm2 (List.mem_of_getElem? (i := 233) rfl)) rfl
theorem wk2_234 : Jvm.Cond.methodLink "BooksMoved" (185 : Nat) ({ cls := "BooksMoved$Row", name := "has", desc := "(I)Z" } : Jvm.MethodName) ∈ WL := WL_in (tm2 (List.mem_of_getElem? (i := 234) (by decide +kernel))) rfl
theorem wk2_235 : Jvm.Cond.instanceMethod ({ cls := "BooksMoved$Row", name := "has", desc := "(I)Z" } : Jvm.MethodName) ∈ WL := WL_in (tm2 (List.mem_of_getElem? (i := 235) (by decide +kernel))) rfl
theorem wk2_236 : Jvm.Cond.selects "BooksMoved$Row" ({ cls := "BooksMoved$Row", name := "has", desc := "(I)Z" } : Jvm.MethodName) ({ cls := "BooksMoved$Row", name := "has", desc := "(I)Z" } : Jvm.MethodName) ∈ WL := WL_in (tm2 (List.mem_of_getElem? (i := 236) (by decide +kernel))) rfl
theorem wk2_237 : Jvm.Cond.code ({ cls := "BooksMoved$Row", name := "has", desc := "(I)Z" } : Jvm.MethodName) prog_5_method_2_code (2 : Nat) (Option.some Jvm.ClassFile.FieldType.boolean) ∈ WL := WL_in (tm2 (List.mem_of_getElem? (i := 237) rfl)) rfl
theorem wk2_239 : Jvm.Cond.methodLink "BooksMovedLaw" (96 : Nat) ({ cls := "BooksMoved", name := "misplace", desc := "(II)Z" } : Jvm.MethodName) ∈ WL := WL_in (tm2 (List.mem_of_getElem? (i := 239) (by decide +kernel))) rfl
theorem wk3_0 : Jvm.Cond.instanceMethod ({ cls := "BooksMoved", name := "misplace", desc := "(II)Z" } : Jvm.MethodName) ∈ WL := WL_in (tm3 (List.mem_of_getElem? (i := 0) (by decide +kernel))) rfl
theorem wk3_1 : Jvm.Cond.selects "BooksMoved" ({ cls := "BooksMoved", name := "misplace", desc := "(II)Z" } : Jvm.MethodName) ({ cls := "BooksMoved", name := "misplace", desc := "(II)Z" } : Jvm.MethodName) ∈ WL := WL_in (tm3 (List.mem_of_getElem? (i := 1) (by decide +kernel))) rfl
theorem wk3_2 : Jvm.Cond.code ({ cls := "BooksMoved", name := "misplace", desc := "(II)Z" } : Jvm.MethodName) prog_1_method_21_code (3 : Nat) (Option.some Jvm.ClassFile.FieldType.boolean) ∈ WL := WL_in (tm3 (List.mem_of_getElem? (i := 2) rfl)) rfl
theorem wk3_3 : Jvm.Cond.methodLink "BooksMoved" (189 : Nat) ({ cls := "BooksMoved$Row", name := "carry", desc := "(II)V" } : Jvm.MethodName) ∈ WL := WL_in (tm3 (List.mem_of_getElem? (i := 3) (by decide +kernel))) rfl
theorem wk3_4 : Jvm.Cond.instanceMethod ({ cls := "BooksMoved$Row", name := "carry", desc := "(II)V" } : Jvm.MethodName) ∈ WL := WL_in (tm3 (List.mem_of_getElem? (i := 4) (by decide +kernel))) rfl
theorem wk3_5 : Jvm.Cond.selects "BooksMoved$Row" ({ cls := "BooksMoved$Row", name := "carry", desc := "(II)V" } : Jvm.MethodName) ({ cls := "BooksMoved$Row", name := "carry", desc := "(II)V" } : Jvm.MethodName) ∈ WL := WL_in (tm3 (List.mem_of_getElem? (i := 5) (by decide +kernel))) rfl
theorem wk3_6 : Jvm.Cond.code ({ cls := "BooksMoved$Row", name := "carry", desc := "(II)V" } : Jvm.MethodName) prog_5_method_4_code (5 : Nat) (Option.none : Option Jvm.ClassFile.FieldType) ∈ WL := WL_in (tm3 (List.mem_of_getElem? (i := 6) rfl)) rfl
theorem wk3_7 : Jvm.Cond.methodLink "BooksMovedLaw" (100 : Nat) ({ cls := "BooksMoved", name := "takenOut", desc := "()I" } : Jvm.MethodName) ∈ WL := WL_in (tm3 (List.mem_of_getElem? (i := 7) (by decide +kernel))) rfl
theorem wk3_8 : Jvm.Cond.instanceMethod ({ cls := "BooksMoved", name := "takenOut", desc := "()I" } : Jvm.MethodName) ∈ WL := WL_in (tm3 (List.mem_of_getElem? (i := 8) (by decide +kernel))) rfl
theorem wk3_9 : Jvm.Cond.selects "BooksMoved" ({ cls := "BooksMoved", name := "takenOut", desc := "()I" } : Jvm.MethodName) ({ cls := "BooksMoved", name := "takenOut", desc := "()I" } : Jvm.MethodName) ∈ WL := WL_in (tm3 (List.mem_of_getElem? (i := 9) (by decide +kernel))) rfl
theorem wk3_10 : Jvm.Cond.code ({ cls := "BooksMoved", name := "takenOut", desc := "()I" } : Jvm.MethodName) prog_1_method_22_code (1 : Nat) (Option.some Jvm.ClassFile.FieldType.int) ∈ WL := WL_in (tm3 (List.mem_of_getElem? (i := 10) rfl)) rfl
theorem wk3_11 : Jvm.Cond.methodLink "BooksMoved" (193 : Nat) ({ cls := "BooksMoved", name := "lookThrough", desc := "()V" } : Jvm.MethodName) ∈ WL := WL_in (tm3 (List.mem_of_getElem? (i := 11) (by decide +kernel))) rfl
theorem wk3_13 : Jvm.Cond.instanceMethod ({ cls := "BooksMoved", name := "lookThrough", desc := "()V" } : Jvm.MethodName) ∈ WL := WL_in (tm3 (List.mem_of_getElem? (i := 13) (by decide +kernel))) rfl
theorem wk3_14 : Jvm.Cond.code ({ cls := "BooksMoved", name := "lookThrough", desc := "()V" } : Jvm.MethodName) prog_1_method_30_code (1 : Nat) (Option.none : Option Jvm.ClassFile.FieldType) ∈ WL := WL_in (tm3 (List.mem_of_getElem? (i := 14) rfl)) rfl
theorem wk3_15 : Jvm.Cond.methodLink "BooksMoved" (217 : Nat) ({ cls := "BooksMoved$Row", name := "findOuts", desc := "(LBooksMoved$Books;I)V" } : Jvm.MethodName) ∈ WL := WL_in (tm3 (List.mem_of_getElem? (i := 15) (by decide +kernel))) rfl
theorem wk3_16 : Jvm.Cond.instanceMethod ({ cls := "BooksMoved$Row", name := "findOuts", desc := "(LBooksMoved$Books;I)V" } : Jvm.MethodName) ∈ WL := WL_in (tm3 (List.mem_of_getElem? (i := 16) (by decide +kernel))) rfl
theorem wk3_17 : Jvm.Cond.selects "BooksMoved$Row" ({ cls := "BooksMoved$Row", name := "findOuts", desc := "(LBooksMoved$Books;I)V" } : Jvm.MethodName) ({ cls := "BooksMoved$Row", name := "findOuts", desc := "(LBooksMoved$Books;I)V" } : Jvm.MethodName) ∈ WL := WL_in (tm3 (List.mem_of_getElem? (i := 17) (by decide +kernel))) rfl
theorem wk3_18 : Jvm.Cond.code ({ cls := "BooksMoved$Row", name := "findOuts", desc := "(LBooksMoved$Books;I)V" } : Jvm.MethodName) prog_5_method_5_code (8 : Nat) (Option.none : Option Jvm.ClassFile.FieldType) ∈ WL := WL_in (tm3 (List.mem_of_getElem? (i := 18) rfl)) rfl
theorem wk3_19 : Jvm.Cond.methodLink "BooksMoved$Row" (36 : Nat) ({ cls := "BooksMoved$Row", name := "mostBehind", desc := "(ILBooksMoved$Books;I)I" } : Jvm.MethodName) ∈ WL := WL_in (tm3 (List.mem_of_getElem? (i := 19) (by decide +kernel))) rfl
theorem wk3_21 : Jvm.Cond.instanceMethod ({ cls := "BooksMoved$Row", name := "mostBehind", desc := "(ILBooksMoved$Books;I)I" } : Jvm.MethodName) ∈ WL := WL_in (tm3 (List.mem_of_getElem? (i := 21) (by decide +kernel))) rfl
theorem wk3_22 : Jvm.Cond.code ({ cls := "BooksMoved$Row", name := "mostBehind", desc := "(ILBooksMoved$Books;I)I" } : Jvm.MethodName) prog_5_method_6_code (6 : Nat) (Option.some Jvm.ClassFile.FieldType.int) ∈ WL := WL_in (tm3 (List.mem_of_getElem? (i := 22) rfl)) rfl
theorem wk3_23 : Jvm.Cond.methodLink "BooksMoved$Row" (46 : Nat) ({ cls := "BooksMoved$Books", name := "sign", desc := "(III)I" } : Jvm.MethodName) ∈ WL := WL_in (tm3 (List.mem_of_getElem? (i := 23) (by decide +kernel))) rfl
theorem wk3_24 : Jvm.Cond.methodLink "BooksMoved$Row" (40 : Nat) ({ cls := "java/lang/Math", name := "max", desc := "(II)I" } : Jvm.MethodName) ∈ WL := WL_in (tm3 (List.mem_of_getElem? (i := 24) (by decide +kernel))) rfl
theorem wk3_25 : Jvm.Cond.methodLink "BooksMovedLaw" (104 : Nat) ({ cls := "BooksMoved", name := "isOut", desc := "(I)I" } : Jvm.MethodName) ∈ WL := WL_in (tm3 (List.mem_of_getElem? (i := 25) (by decide +kernel))) rfl
theorem wk3_26 : Jvm.Cond.instanceMethod ({ cls := "BooksMoved", name := "isOut", desc := "(I)I" } : Jvm.MethodName) ∈ WL := WL_in (tm3 (List.mem_of_getElem? (i := 26) (by decide +kernel))) rfl
theorem wk3_27 : Jvm.Cond.selects "BooksMoved" ({ cls := "BooksMoved", name := "isOut", desc := "(I)I" } : Jvm.MethodName) ({ cls := "BooksMoved", name := "isOut", desc := "(I)I" } : Jvm.MethodName) ∈ WL := WL_in (tm3 (List.mem_of_getElem? (i := 27) (by decide +kernel))) rfl
theorem wk3_28 : Jvm.Cond.code ({ cls := "BooksMoved", name := "isOut", desc := "(I)I" } : Jvm.MethodName) prog_1_method_23_code (2 : Nat) (Option.some Jvm.ClassFile.FieldType.int) ∈ WL := WL_in (tm3 (List.mem_of_getElem? (i := 28) rfl)) rfl
theorem wk3_29 : Jvm.Cond.methodLink "BooksMovedLaw" (108 : Nat) ({ cls := "BooksMoved", name := "drawn", desc := "(III)I" } : Jvm.MethodName) ∈ WL := WL_in (tm3 (List.mem_of_getElem? (i := 29) (by decide +kernel))) rfl
theorem wk3_30 : Jvm.Cond.instanceMethod ({ cls := "BooksMoved", name := "drawn", desc := "(III)I" } : Jvm.MethodName) ∈ WL := WL_in (tm3 (List.mem_of_getElem? (i := 30) (by decide +kernel))) rfl
theorem wk3_31 : Jvm.Cond.selects "BooksMoved" ({ cls := "BooksMoved", name := "drawn", desc := "(III)I" } : Jvm.MethodName) ({ cls := "BooksMoved", name := "drawn", desc := "(III)I" } : Jvm.MethodName) ∈ WL := WL_in (tm3 (List.mem_of_getElem? (i := 31) (by decide +kernel))) rfl
theorem wk3_32 : Jvm.Cond.code ({ cls := "BooksMoved", name := "drawn", desc := "(III)I" } : Jvm.MethodName) prog_1_method_24_code (6 : Nat) (Option.some Jvm.ClassFile.FieldType.int) ∈ WL := WL_in (tm3 (List.mem_of_getElem? (i := 32) rfl)) rfl
theorem wk3_33 : Jvm.Cond.methodLink "BooksMoved" (203 : Nat) ({ cls := "BooksMoved$Row", name := "draw", desc := "(IILBooksMoved$Books;I)I" } : Jvm.MethodName) ∈ WL := WL_in (tm3 (List.mem_of_getElem? (i := 33) (by decide +kernel))) rfl
theorem wk3_34 : Jvm.Cond.instanceMethod ({ cls := "BooksMoved$Row", name := "draw", desc := "(IILBooksMoved$Books;I)I" } : Jvm.MethodName) ∈ WL := WL_in (tm3 (List.mem_of_getElem? (i := 34) (by decide +kernel))) rfl
theorem wk3_35 : Jvm.Cond.selects "BooksMoved$Row" ({ cls := "BooksMoved$Row", name := "draw", desc := "(IILBooksMoved$Books;I)I" } : Jvm.MethodName) ({ cls := "BooksMoved$Row", name := "draw", desc := "(IILBooksMoved$Books;I)I" } : Jvm.MethodName) ∈ WL := WL_in (tm3 (List.mem_of_getElem? (i := 35) (by decide +kernel))) rfl
theorem wk3_36 : Jvm.Cond.code ({ cls := "BooksMoved$Row", name := "draw", desc := "(IILBooksMoved$Books;I)I" } : Jvm.MethodName) prog_5_method_7_code (11 : Nat) (Option.some Jvm.ClassFile.FieldType.int) ∈ WL := WL_in (tm3 (List.mem_of_getElem? (i := 36) rfl)) rfl
theorem wk3_37 : Jvm.Cond.constant "BooksMoved$Row" (52 : Nat) (1103515245 : Int32) ∈ WL := WL_in (tm3 (List.mem_of_getElem? (i := 37) (by decide +kernel))) rfl
theorem wk3_38 : Jvm.Cond.methodLink "BooksMovedLaw" (112 : Nat) ({ cls := "BooksMoved", name := "about", desc := "(I)I" } : Jvm.MethodName) ∈ WL := WL_in (tm3 (List.mem_of_getElem? (i := 38) (by decide +kernel))) rfl
theorem wk3_39 : Jvm.Cond.instanceMethod ({ cls := "BooksMoved", name := "about", desc := "(I)I" } : Jvm.MethodName) ∈ WL := WL_in (tm3 (List.mem_of_getElem? (i := 39) (by decide +kernel))) rfl
theorem wk3_40 : Jvm.Cond.selects "BooksMoved" ({ cls := "BooksMoved", name := "about", desc := "(I)I" } : Jvm.MethodName) ({ cls := "BooksMoved", name := "about", desc := "(I)I" } : Jvm.MethodName) ∈ WL := WL_in (tm3 (List.mem_of_getElem? (i := 40) (by decide +kernel))) rfl
theorem wk3_41 : Jvm.Cond.code ({ cls := "BooksMoved", name := "about", desc := "(I)I" } : Jvm.MethodName) prog_1_method_25_code (2 : Nat) (Option.some Jvm.ClassFile.FieldType.int) ∈ WL := WL_in (tm3 (List.mem_of_getElem? (i := 41) rfl)) rfl
theorem wk3_42 : Jvm.Cond.classLink "BooksMovedLaw" (10 : Nat) "BooksMovedModel" ∈ WL := WL_in (tm3 (List.mem_of_getElem? (i := 42) (by decide +kernel))) rfl
theorem wk3_43 : Jvm.Cond.instantiable "BooksMovedModel" (40 : Nat) ∈ WL := WL_in (tm3 (List.mem_of_getElem? (i := 43) (by decide +kernel))) rfl
theorem wk3_44 : Jvm.Cond.methodLink "BooksMovedLaw" (12 : Nat) ({ cls := "BooksMovedModel", name := "<init>", desc := "()V" } : Jvm.MethodName) ∈ WL := WL_in (tm3 (List.mem_of_getElem? (i := 44) (by decide +kernel))) rfl
theorem wk3_45 : Jvm.Cond.instanceMethod ({ cls := "BooksMovedModel", name := "<init>", desc := "()V" } : Jvm.MethodName) ∈ WL := WL_in (tm3 (List.mem_of_getElem? (i := 45) (by decide +kernel))) rfl
theorem wk3_46 : Jvm.Cond.code ({ cls := "BooksMovedModel", name := "<init>", desc := "()V" } : Jvm.MethodName) prog_9_method_1_code (1 : Nat) (Option.none : Option Jvm.ClassFile.FieldType) ∈ WL := WL_in (tm3 (List.mem_of_getElem? (i := 46) rfl)) rfl
theorem wk3_47 : Jvm.Cond.methodLink "BooksMovedModel" (1 : Nat) ({ cls := "java/lang/Object", name := "<init>", desc := "()V" } : Jvm.MethodName) ∈ WL := WL_in (tm3 (List.mem_of_getElem? (i := 47) (by decide +kernel))) rfl
theorem wk3_48 : Jvm.Cond.fieldLink "BooksMovedModel" (99 : Nat) "BooksMovedModel" "books" "I" ∈ WL := WL_in (tm3 (List.mem_of_getElem? (i := 48) (by decide +kernel))) rfl
theorem wk3_49 : Jvm.Cond.fieldLink "BooksMovedModel" (128 : Nat) "BooksMovedModel" "rule" "I" ∈ WL := WL_in (tm3 (List.mem_of_getElem? (i := 49) (by decide +kernel))) rfl
theorem wk3_50 : Jvm.Cond.fieldLink "BooksMovedModel" (7 : Nat) "BooksMovedModel" "limit" "I" ∈ WL := WL_in (tm3 (List.mem_of_getElem? (i := 50) (by decide +kernel))) rfl
theorem wk3_51 : Jvm.Cond.fieldLink "BooksMovedModel" (13 : Nat) "BooksMovedModel" "holds" "I" ∈ WL := WL_in (tm3 (List.mem_of_getElem? (i := 51) (by decide +kernel))) rfl
theorem wk3_52 : Jvm.Cond.fieldLink "BooksMovedModel" (16 : Nat) "BooksMovedModel" "number" "[I" ∈ WL := WL_in (tm3 (List.mem_of_getElem? (i := 52) (by decide +kernel))) rfl
theorem wk3_53 : Jvm.Cond.fieldLink "BooksMovedModel" (20 : Nat) "BooksMovedModel" "behind" "[I" ∈ WL := WL_in (tm3 (List.mem_of_getElem? (i := 53) (by decide +kernel))) rfl
theorem wk3_54 : Jvm.Cond.fieldLink "BooksMovedModel" (23 : Nat) "BooksMovedModel" "digits" "[I" ∈ WL := WL_in (tm3 (List.mem_of_getElem? (i := 54) (by decide +kernel))) rfl
theorem wk3_55 : Jvm.Cond.fieldLink "BooksMovedModel" (26 : Nat) "BooksMovedModel" "letters" "[I" ∈ WL := WL_in (tm3 (List.mem_of_getElem? (i := 55) (by decide +kernel))) rfl
theorem wk3_56 : Jvm.Cond.fieldLink "BooksMovedModel" (29 : Nat) "BooksMovedModel" "house" "[I" ∈ WL := WL_in (tm3 (List.mem_of_getElem? (i := 56) (by decide +kernel))) rfl
theorem wk3_57 : Jvm.Cond.fieldLink "BooksMovedModel" (32 : Nat) "BooksMovedModel" "thick" "[I" ∈ WL := WL_in (tm3 (List.mem_of_getElem? (i := 57) (by decide +kernel))) rfl
theorem wk3_58 : Jvm.Cond.fieldLink "BooksMovedModel" (35 : Nat) "BooksMovedModel" "tall" "[I" ∈ WL := WL_in (tm3 (List.mem_of_getElem? (i := 58) (by decide +kernel))) rfl
theorem wk3_59 : Jvm.Cond.fieldLink "BooksMovedModel" (148 : Nat) "BooksMovedModel" "shelves" "I" ∈ WL := WL_in (tm3 (List.mem_of_getElem? (i := 59) (by decide +kernel))) rfl
theorem wk3_60 : Jvm.Cond.fieldLink "BooksMovedModel" (38 : Nat) "BooksMovedModel" "longs" "[I" ∈ WL := WL_in (tm3 (List.mem_of_getElem? (i := 60) (by decide +kernel))) rfl
theorem wk3_61 : Jvm.Cond.fieldLink "BooksMovedModel" (41 : Nat) "BooksMovedModel" "growth" "[I" ∈ WL := WL_in (tm3 (List.mem_of_getElem? (i := 61) (by decide +kernel))) rfl
theorem wk3_62 : Jvm.Cond.fieldLink "BooksMovedModel" (44 : Nat) "BooksMovedModel" "way" "[I" ∈ WL := WL_in (tm3 (List.mem_of_getElem? (i := 62) (by decide +kernel))) rfl
theorem wk3_63 : Jvm.Cond.fieldLink "BooksMovedModel" (47 : Nat) "BooksMovedModel" "tape" "[I" ∈ WL := WL_in (tm3 (List.mem_of_getElem? (i := 63) (by decide +kernel))) rfl
theorem wk3_64 : Jvm.Cond.fieldLink "BooksMovedModel" (106 : Nat) "BooksMovedModel" "taped" "I" ∈ WL := WL_in (tm3 (List.mem_of_getElem? (i := 64) (by decide +kernel))) rfl
theorem wk3_65 : Jvm.Cond.fieldLink "BooksMovedModel" (50 : Nat) "BooksMovedModel" "wrongAt" "I" ∈ WL := WL_in (tm3 (List.mem_of_getElem? (i := 65) (by decide +kernel))) rfl
theorem wk3_66 : Jvm.Cond.fieldLink "BooksMovedModel" (113 : Nat) "BooksMovedModel" "at" "I" ∈ WL := WL_in (tm3 (List.mem_of_getElem? (i := 66) (by decide +kernel))) rfl
theorem wk3_67 : Jvm.Cond.fieldLink "BooksMovedModel" (53 : Nat) "BooksMovedModel" "order" "[I" ∈ WL := WL_in (tm3 (List.mem_of_getElem? (i := 67) (by decide +kernel))) rfl
theorem wk3_68 : Jvm.Cond.fieldLink "BooksMovedModel" (56 : Nat) "BooksMovedModel" "shelfOf" "[I" ∈ WL := WL_in (tm3 (List.mem_of_getElem? (i := 68) (by decide +kernel))) rfl
theorem wk3_69 : Jvm.Cond.fieldLink "BooksMovedModel" (59 : Nat) "BooksMovedModel" "placeOn" "[I" ∈ WL := WL_in (tm3 (List.mem_of_getElem? (i := 69) (by decide +kernel))) rfl
theorem wk3_70 : Jvm.Cond.fieldLink "BooksMovedModel" (62 : Nat) "BooksMovedModel" "has" "[I" ∈ WL := WL_in (tm3 (List.mem_of_getElem? (i := 70) (by decide +kernel))) rfl
theorem wk3_71 : Jvm.Cond.fieldLink "BooksMovedModel" (65 : Nat) "BooksMovedModel" "needs" "[I" ∈ WL := WL_in (tm3 (List.mem_of_getElem? (i := 71) (by decide +kernel))) rfl
theorem wk3_72 : Jvm.Cond.fieldLink "BooksMovedModel" (151 : Nat) "BooksMovedModel" "outsize" "I" ∈ WL := WL_in (tm3 (List.mem_of_getElem? (i := 72) (by decide +kernel))) rfl
theorem wk3_73 : Jvm.Cond.fieldLink "BooksMovedModel" (154 : Nat) "BooksMovedModel" "notLaid" "I" ∈ WL := WL_in (tm3 (List.mem_of_getElem? (i := 73) (by decide +kernel))) rfl
theorem wk3_74 : Jvm.Cond.fieldLink "BooksMovedModel" (163 : Nat) "BooksMovedModel" "crates" "I" ∈ WL := WL_in (tm3 (List.mem_of_getElem? (i := 74) (by decide +kernel))) rfl
theorem wk3_75 : Jvm.Cond.fieldLink "BooksMovedModel" (169 : Nat) "BooksMovedModel" "meets" "I" ∈ WL := WL_in (tm3 (List.mem_of_getElem? (i := 75) (by decide +kernel))) rfl
theorem wk3_76 : Jvm.Cond.fieldLink "BooksMovedModel" (172 : Nat) "BooksMovedModel" "meetsAt" "I" ∈ WL := WL_in (tm3 (List.mem_of_getElem? (i := 76) (by decide +kernel))) rfl
theorem wk3_77 : Jvm.Cond.fieldLink "BooksMovedModel" (68 : Nat) "BooksMovedModel" "firstOf" "[I" ∈ WL := WL_in (tm3 (List.mem_of_getElem? (i := 77) (by decide +kernel))) rfl
theorem wk3_78 : Jvm.Cond.fieldLink "BooksMovedModel" (71 : Nat) "BooksMovedModel" "many" "[I" ∈ WL := WL_in (tm3 (List.mem_of_getElem? (i := 78) (by decide +kernel))) rfl
theorem wk3_79 : Jvm.Cond.fieldLink "BooksMovedModel" (74 : Nat) "BooksMovedModel" "crateHouse" "[I" ∈ WL := WL_in (tm3 (List.mem_of_getElem? (i := 79) (by decide +kernel))) rfl
theorem wk3_80 : Jvm.Cond.fieldLink "BooksMovedModel" (77 : Nat) "BooksMovedModel" "begins" "[I" ∈ WL := WL_in (tm3 (List.mem_of_getElem? (i := 80) (by decide +kernel))) rfl
theorem wk3_81 : Jvm.Cond.fieldLink "BooksMovedModel" (80 : Nat) "BooksMovedModel" "ends" "[I" ∈ WL := WL_in (tm3 (List.mem_of_getElem? (i := 81) (by decide +kernel))) rfl
theorem wk3_82 : Jvm.Cond.fieldLink "BooksMovedModel" (83 : Nat) "BooksMovedModel" "crateOf" "[I" ∈ WL := WL_in (tm3 (List.mem_of_getElem? (i := 82) (by decide +kernel))) rfl
theorem wk3_83 : Jvm.Cond.fieldLink "BooksMovedModel" (176 : Nat) "BooksMovedModel" "rowLong" "I" ∈ WL := WL_in (tm3 (List.mem_of_getElem? (i := 83) (by decide +kernel))) rfl
theorem wk3_84 : Jvm.Cond.fieldLink "BooksMovedModel" (86 : Nat) "BooksMovedModel" "row" "[I" ∈ WL := WL_in (tm3 (List.mem_of_getElem? (i := 84) (by decide +kernel))) rfl
theorem wk3_85 : Jvm.Cond.fieldLink "BooksMovedModel" (89 : Nat) "BooksMovedModel" "stays" "[I" ∈ WL := WL_in (tm3 (List.mem_of_getElem? (i := 85) (by decide +kernel))) rfl
theorem wk3_86 : Jvm.Cond.fieldLink "BooksMovedModel" (92 : Nat) "BooksMovedModel" "isOut" "[Z" ∈ WL := WL_in (tm3 (List.mem_of_getElem? (i := 86) (by decide +kernel))) rfl
theorem wk3_87 : Jvm.Cond.fieldLink "BooksMovedModel" (96 : Nat) "BooksMovedModel" "lot" "[I" ∈ WL := WL_in (tm3 (List.mem_of_getElem? (i := 87) (by decide +kernel))) rfl
theorem wk3_169 : Jvm.Cond.methodLink "BooksMovedLaw" (17 : Nat) ({ cls := "BooksMovedModel", name := "feed", desc := "(IIIII)I" } : Jvm.MethodName) ∈ WL := WL_in (tm3 (List.mem_of_getElem? (i := 169) (by decide +kernel))) rfl
theorem wk3_170 : Jvm.Cond.instanceMethod ({ cls := "BooksMovedModel", name := "feed", desc := "(IIIII)I" } : Jvm.MethodName) ∈ WL := WL_in (tm3 (List.mem_of_getElem? (i := 170) (by decide +kernel))) rfl
theorem wk3_171 : Jvm.Cond.selects "BooksMovedModel" ({ cls := "BooksMovedModel", name := "feed", desc := "(IIIII)I" } : Jvm.MethodName) ({ cls := "BooksMovedModel", name := "feed", desc := "(IIIII)I" } : Jvm.MethodName) ∈ WL := WL_in (tm3 (List.mem_of_getElem? (i := 171) (by decide +kernel))) rfl
theorem wk3_172 : Jvm.Cond.code ({ cls := "BooksMovedModel", name := "feed", desc := "(IIIII)I" } : Jvm.MethodName) prog_9_method_5_code (6 : Nat) (Option.some Jvm.ClassFile.FieldType.int) ∈ WL := WL_in (tm3 (List.mem_of_getElem? (i := 172) rfl)) rfl
theorem wk3_173 : Jvm.Cond.methodLink "BooksMovedModel" (109 : Nat) ({ cls := "BooksMovedModel", name := "four", desc := "(I)V" } : Jvm.MethodName) ∈ WL := WL_in (tm3 (List.mem_of_getElem? (i := 173) (by decide +kernel))) rfl
theorem wk3_175 : Jvm.Cond.instanceMethod ({ cls := "BooksMovedModel", name := "four", desc := "(I)V" } : Jvm.MethodName) ∈ WL := WL_in (tm3 (List.mem_of_getElem? (i := 175) (by decide +kernel))) rfl
theorem wk3_176 : Jvm.Cond.code ({ cls := "BooksMovedModel", name := "four", desc := "(I)V" } : Jvm.MethodName) prog_9_method_4_code (3 : Nat) (Option.none : Option Jvm.ClassFile.FieldType) ∈ WL := WL_in (tm3 (List.mem_of_getElem? (i := 176) rfl)) rfl
theorem wk3_177 : Jvm.Cond.methodLink "BooksMovedLaw" (22 : Nat) ({ cls := "BooksMovedModel", name := "end", desc := "(I)I" } : Jvm.MethodName) ∈ WL := WL_in (tm3 (List.mem_of_getElem? (i := 177) (by decide +kernel))) rfl
theorem wk3_178 : Jvm.Cond.instanceMethod ({ cls := "BooksMovedModel", name := "end", desc := "(I)I" } : Jvm.MethodName) ∈ WL := WL_in (tm3 (List.mem_of_getElem? (i := 178) (by decide +kernel))) rfl
theorem wk3_179 : Jvm.Cond.selects "BooksMovedModel" ({ cls := "BooksMovedModel", name := "end", desc := "(I)I" } : Jvm.MethodName) ({ cls := "BooksMovedModel", name := "end", desc := "(I)I" } : Jvm.MethodName) ∈ WL := WL_in (tm3 (List.mem_of_getElem? (i := 179) (by decide +kernel))) rfl
theorem wk3_180 : Jvm.Cond.code ({ cls := "BooksMovedModel", name := "end", desc := "(I)I" } : Jvm.MethodName) prog_9_method_6_code (2 : Nat) (Option.some Jvm.ClassFile.FieldType.int) ∈ WL := WL_in (tm3 (List.mem_of_getElem? (i := 180) rfl)) rfl
theorem wk3_181 : Jvm.Cond.methodLink "BooksMovedModel" (102 : Nat) ({ cls := "BooksMovedModel", name := "isIn", desc := "(III)Z" } : Jvm.MethodName) ∈ WL := WL_in (tm3 (List.mem_of_getElem? (i := 181) (by decide +kernel))) rfl
theorem wk3_182 : Jvm.Cond.static ({ cls := "BooksMovedModel", name := "isIn", desc := "(III)Z" } : Jvm.MethodName) ∈ WL := WL_in (tm3 (List.mem_of_getElem? (i := 182) (by decide +kernel))) rfl
theorem wk3_183 : Jvm.Cond.code ({ cls := "BooksMovedModel", name := "isIn", desc := "(III)Z" } : Jvm.MethodName) prog_9_method_2_code (3 : Nat) (Option.some Jvm.ClassFile.FieldType.boolean) ∈ WL := WL_in (tm3 (List.mem_of_getElem? (i := 183) rfl)) rfl
theorem wk3_184 : Jvm.Cond.methodLink "BooksMovedLaw" (27 : Nat) ({ cls := "BooksMovedModel", name := "book", desc := "(III)I" } : Jvm.MethodName) ∈ WL := WL_in (tm3 (List.mem_of_getElem? (i := 184) (by decide +kernel))) rfl
theorem wk3_185 : Jvm.Cond.instanceMethod ({ cls := "BooksMovedModel", name := "book", desc := "(III)I" } : Jvm.MethodName) ∈ WL := WL_in (tm3 (List.mem_of_getElem? (i := 185) (by decide +kernel))) rfl
theorem wk3_186 : Jvm.Cond.selects "BooksMovedModel" ({ cls := "BooksMovedModel", name := "book", desc := "(III)I" } : Jvm.MethodName) ({ cls := "BooksMovedModel", name := "book", desc := "(III)I" } : Jvm.MethodName) ∈ WL := WL_in (tm3 (List.mem_of_getElem? (i := 186) (by decide +kernel))) rfl
theorem wk3_187 : Jvm.Cond.code ({ cls := "BooksMovedModel", name := "book", desc := "(III)I" } : Jvm.MethodName) prog_9_method_10_code (5 : Nat) (Option.some Jvm.ClassFile.FieldType.int) ∈ WL := WL_in (tm3 (List.mem_of_getElem? (i := 187) rfl)) rfl
theorem wk3_188 : Jvm.Cond.methodLink "BooksMovedModel" (124 : Nat) ({ cls := "BooksMovedModel", name := "isMark", desc := "(I)Z" } : Jvm.MethodName) ∈ WL := WL_in (tm3 (List.mem_of_getElem? (i := 188) (by decide +kernel))) rfl
theorem wk3_190 : Jvm.Cond.instanceMethod ({ cls := "BooksMovedModel", name := "isMark", desc := "(I)Z" } : Jvm.MethodName) ∈ WL := WL_in (tm3 (List.mem_of_getElem? (i := 190) (by decide +kernel))) rfl
theorem wk3_191 : Jvm.Cond.code ({ cls := "BooksMovedModel", name := "isMark", desc := "(I)Z" } : Jvm.MethodName) prog_9_method_9_code (5 : Nat) (Option.some Jvm.ClassFile.FieldType.boolean) ∈ WL := WL_in (tm3 (List.mem_of_getElem? (i := 191) rfl)) rfl
theorem wk3_192 : Jvm.Cond.methodLink "BooksMovedModel" (120 : Nat) ({ cls := "BooksMovedModel", name := "digitsHere", desc := "()I" } : Jvm.MethodName) ∈ WL := WL_in (tm3 (List.mem_of_getElem? (i := 192) (by decide +kernel))) rfl
theorem wk3_194 : Jvm.Cond.instanceMethod ({ cls := "BooksMovedModel", name := "digitsHere", desc := "()I" } : Jvm.MethodName) ∈ WL := WL_in (tm3 (List.mem_of_getElem? (i := 194) (by decide +kernel))) rfl
theorem wk3_195 : Jvm.Cond.code ({ cls := "BooksMovedModel", name := "digitsHere", desc := "()I" } : Jvm.MethodName) prog_9_method_8_code (3 : Nat) (Option.some Jvm.ClassFile.FieldType.int) ∈ WL := WL_in (tm3 (List.mem_of_getElem? (i := 195) rfl)) rfl
theorem wk3_196 : Jvm.Cond.methodLink "BooksMovedModel" (116 : Nat) ({ cls := "BooksMovedModel", name := "see", desc := "(I)I" } : Jvm.MethodName) ∈ WL := WL_in (tm3 (List.mem_of_getElem? (i := 196) (by decide +kernel))) rfl
theorem wk3_198 : Jvm.Cond.instanceMethod ({ cls := "BooksMovedModel", name := "see", desc := "(I)I" } : Jvm.MethodName) ∈ WL := WL_in (tm3 (List.mem_of_getElem? (i := 198) (by decide +kernel))) rfl
theorem wk3_199 : Jvm.Cond.code ({ cls := "BooksMovedModel", name := "see", desc := "(I)I" } : Jvm.MethodName) prog_9_method_7_code (2 : Nat) (Option.some Jvm.ClassFile.FieldType.int) ∈ WL := WL_in (tm3 (List.mem_of_getElem? (i := 199) rfl)) rfl
theorem wk3_200 : Jvm.Cond.methodLink "BooksMovedLaw" (32 : Nat) ({ cls := "BooksMovedModel", name := "wrong", desc := "()I" } : Jvm.MethodName) ∈ WL := WL_in (tm3 (List.mem_of_getElem? (i := 200) (by decide +kernel))) rfl
theorem wk3_201 : Jvm.Cond.instanceMethod ({ cls := "BooksMovedModel", name := "wrong", desc := "()I" } : Jvm.MethodName) ∈ WL := WL_in (tm3 (List.mem_of_getElem? (i := 201) (by decide +kernel))) rfl
theorem wk3_202 : Jvm.Cond.selects "BooksMovedModel" ({ cls := "BooksMovedModel", name := "wrong", desc := "()I" } : Jvm.MethodName) ({ cls := "BooksMovedModel", name := "wrong", desc := "()I" } : Jvm.MethodName) ∈ WL := WL_in (tm3 (List.mem_of_getElem? (i := 202) (by decide +kernel))) rfl
theorem wk3_203 : Jvm.Cond.code ({ cls := "BooksMovedModel", name := "wrong", desc := "()I" } : Jvm.MethodName) prog_9_method_11_code (1 : Nat) (Option.some Jvm.ClassFile.FieldType.int) ∈ WL := WL_in (tm3 (List.mem_of_getElem? (i := 203) rfl)) rfl
theorem wk3_204 : Jvm.Cond.methodLink "BooksMovedLaw" (37 : Nat) ({ cls := "BooksMovedModel", name := "rule", desc := "(I)Z" } : Jvm.MethodName) ∈ WL := WL_in (tm3 (List.mem_of_getElem? (i := 204) (by decide +kernel))) rfl
theorem wk3_205 : Jvm.Cond.instanceMethod ({ cls := "BooksMovedModel", name := "rule", desc := "(I)Z" } : Jvm.MethodName) ∈ WL := WL_in (tm3 (List.mem_of_getElem? (i := 205) (by decide +kernel))) rfl
theorem wk3_206 : Jvm.Cond.selects "BooksMovedModel" ({ cls := "BooksMovedModel", name := "rule", desc := "(I)Z" } : Jvm.MethodName) ({ cls := "BooksMovedModel", name := "rule", desc := "(I)Z" } : Jvm.MethodName) ∈ WL := WL_in (tm3 (List.mem_of_getElem? (i := 206) (by decide +kernel))) rfl
theorem wk3_207 : Jvm.Cond.code ({ cls := "BooksMovedModel", name := "rule", desc := "(I)Z" } : Jvm.MethodName) prog_9_method_12_code (2 : Nat) (Option.some Jvm.ClassFile.FieldType.boolean) ∈ WL := WL_in (tm3 (List.mem_of_getElem? (i := 207) rfl)) rfl
theorem wk3_208 : Jvm.Cond.methodLink "BooksMovedLaw" (41 : Nat) ({ cls := "BooksMovedModel", name := "compare", desc := "(III)I" } : Jvm.MethodName) ∈ WL := WL_in (tm3 (List.mem_of_getElem? (i := 208) (by decide +kernel))) rfl
theorem wk3_209 : Jvm.Cond.instanceMethod ({ cls := "BooksMovedModel", name := "compare", desc := "(III)I" } : Jvm.MethodName) ∈ WL := WL_in (tm3 (List.mem_of_getElem? (i := 209) (by decide +kernel))) rfl
theorem wk3_210 : Jvm.Cond.selects "BooksMovedModel" ({ cls := "BooksMovedModel", name := "compare", desc := "(III)I" } : Jvm.MethodName) ({ cls := "BooksMovedModel", name := "compare", desc := "(III)I" } : Jvm.MethodName) ∈ WL := WL_in (tm3 (List.mem_of_getElem? (i := 210) (by decide +kernel))) rfl
theorem wk3_211 : Jvm.Cond.code ({ cls := "BooksMovedModel", name := "compare", desc := "(III)I" } : Jvm.MethodName) prog_9_method_16_code (4 : Nat) (Option.some Jvm.ClassFile.FieldType.int) ∈ WL := WL_in (tm3 (List.mem_of_getElem? (i := 211) rfl)) rfl
theorem wk3_212 : Jvm.Cond.methodLink "BooksMovedModel" (138 : Nat) ({ cls := "BooksMovedModel", name := "isBook", desc := "(I)Z" } : Jvm.MethodName) ∈ WL := WL_in (tm3 (List.mem_of_getElem? (i := 212) (by decide +kernel))) rfl
theorem wk3_214 : Jvm.Cond.instanceMethod ({ cls := "BooksMovedModel", name := "isBook", desc := "(I)Z" } : Jvm.MethodName) ∈ WL := WL_in (tm3 (List.mem_of_getElem? (i := 214) (by decide +kernel))) rfl
theorem wk3_215 : Jvm.Cond.code ({ cls := "BooksMovedModel", name := "isBook", desc := "(I)Z" } : Jvm.MethodName) prog_9_method_3_code (2 : Nat) (Option.some Jvm.ClassFile.FieldType.boolean) ∈ WL := WL_in (tm3 (List.mem_of_getElem? (i := 215) rfl)) rfl
theorem wk3_216 : Jvm.Cond.methodLink "BooksMovedModel" (141 : Nat) ({ cls := "BooksMovedModel", name := "against", desc := "(III)I" } : Jvm.MethodName) ∈ WL := WL_in (tm3 (List.mem_of_getElem? (i := 216) (by decide +kernel))) rfl
theorem wk3_218 : Jvm.Cond.instanceMethod ({ cls := "BooksMovedModel", name := "against", desc := "(III)I" } : Jvm.MethodName) ∈ WL := WL_in (tm3 (List.mem_of_getElem? (i := 218) (by decide +kernel))) rfl
theorem wk3_219 : Jvm.Cond.code ({ cls := "BooksMovedModel", name := "against", desc := "(III)I" } : Jvm.MethodName) prog_9_method_15_code (4 : Nat) (Option.some Jvm.ClassFile.FieldType.int) ∈ WL := WL_in (tm3 (List.mem_of_getElem? (i := 219) rfl)) rfl
theorem wk3_220 : Jvm.Cond.methodLink "BooksMovedModel" (131 : Nat) ({ cls := "BooksMovedModel", name := "sign", desc := "(II)I" } : Jvm.MethodName) ∈ WL := WL_in (tm3 (List.mem_of_getElem? (i := 220) (by decide +kernel))) rfl
theorem wk3_221 : Jvm.Cond.static ({ cls := "BooksMovedModel", name := "sign", desc := "(II)I" } : Jvm.MethodName) ∈ WL := WL_in (tm3 (List.mem_of_getElem? (i := 221) (by decide +kernel))) rfl
theorem wk3_222 : Jvm.Cond.code ({ cls := "BooksMovedModel", name := "sign", desc := "(II)I" } : Jvm.MethodName) prog_9_method_14_code (2 : Nat) (Option.some Jvm.ClassFile.FieldType.int) ∈ WL := WL_in (tm3 (List.mem_of_getElem? (i := 222) rfl)) rfl
theorem wk3_223 : Jvm.Cond.methodLink "BooksMovedModel" (135 : Nat) ({ cls := "BooksMovedModel", name := "keyOf", desc := "(II)I" } : Jvm.MethodName) ∈ WL := WL_in (tm3 (List.mem_of_getElem? (i := 223) (by decide +kernel))) rfl
theorem wk3_225 : Jvm.Cond.instanceMethod ({ cls := "BooksMovedModel", name := "keyOf", desc := "(II)I" } : Jvm.MethodName) ∈ WL := WL_in (tm3 (List.mem_of_getElem? (i := 225) (by decide +kernel))) rfl
theorem wk3_226 : Jvm.Cond.code ({ cls := "BooksMovedModel", name := "keyOf", desc := "(II)I" } : Jvm.MethodName) prog_9_method_13_code (5 : Nat) (Option.some Jvm.ClassFile.FieldType.int) ∈ WL := WL_in (tm3 (List.mem_of_getElem? (i := 226) rfl)) rfl
theorem wk3_227 : Jvm.Cond.methodLink "BooksMovedLaw" (46 : Nat) ({ cls := "BooksMovedModel", name := "ordered", desc := "(II)I" } : Jvm.MethodName) ∈ WL := WL_in (tm3 (List.mem_of_getElem? (i := 227) (by decide +kernel))) rfl
theorem wk3_228 : Jvm.Cond.instanceMethod ({ cls := "BooksMovedModel", name := "ordered", desc := "(II)I" } : Jvm.MethodName) ∈ WL := WL_in (tm3 (List.mem_of_getElem? (i := 228) (by decide +kernel))) rfl
theorem wk3_229 : Jvm.Cond.selects "BooksMovedModel" ({ cls := "BooksMovedModel", name := "ordered", desc := "(II)I" } : Jvm.MethodName) ({ cls := "BooksMovedModel", name := "ordered", desc := "(II)I" } : Jvm.MethodName) ∈ WL := WL_in (tm3 (List.mem_of_getElem? (i := 229) (by decide +kernel))) rfl
theorem wk3_230 : Jvm.Cond.code ({ cls := "BooksMovedModel", name := "ordered", desc := "(II)I" } : Jvm.MethodName) prog_9_method_18_code (3 : Nat) (Option.some Jvm.ClassFile.FieldType.int) ∈ WL := WL_in (tm3 (List.mem_of_getElem? (i := 230) rfl)) rfl
theorem wk3_231 : Jvm.Cond.methodLink "BooksMovedModel" (145 : Nat) ({ cls := "BooksMovedModel", name := "sort", desc := "(I)V" } : Jvm.MethodName) ∈ WL := WL_in (tm3 (List.mem_of_getElem? (i := 231) (by decide +kernel))) rfl
theorem wk3_233 : Jvm.Cond.instanceMethod ({ cls := "BooksMovedModel", name := "sort", desc := "(I)V" } : Jvm.MethodName) ∈ WL := WL_in (tm3 (List.mem_of_getElem? (i := 233) (by decide +kernel))) rfl
theorem wk3_234 : Jvm.Cond.code ({ cls := "BooksMovedModel", name := "sort", desc := "(I)V" } : Jvm.MethodName) prog_9_method_17_code (4 : Nat) (Option.none : Option Jvm.ClassFile.FieldType) ∈ WL := WL_in (tm3 (List.mem_of_getElem? (i := 234) rfl)) rfl
theorem wk3_235 : Jvm.Cond.methodLink "BooksMovedLaw" (50 : Nat) ({ cls := "BooksMovedModel", name := "quarrels", desc := "()I" } : Jvm.MethodName) ∈ WL := WL_in (tm3 (List.mem_of_getElem? (i := 235) (by decide +kernel))) rfl
theorem wk3_236 : Jvm.Cond.instanceMethod ({ cls := "BooksMovedModel", name := "quarrels", desc := "()I" } : Jvm.MethodName) ∈ WL := WL_in (tm3 (List.mem_of_getElem? (i := 236) (by decide +kernel))) rfl
theorem wk3_237 : Jvm.Cond.selects "BooksMovedModel" ({ cls := "BooksMovedModel", name := "quarrels", desc := "()I" } : Jvm.MethodName) ({ cls := "BooksMovedModel", name := "quarrels", desc := "()I" } : Jvm.MethodName) ∈ WL := WL_in (tm3 (List.mem_of_getElem? (i := 237) (by decide +kernel))) rfl
theorem wk3_238 : Jvm.Cond.code ({ cls := "BooksMovedModel", name := "quarrels", desc := "()I" } : Jvm.MethodName) prog_9_method_19_code (4 : Nat) (Option.some Jvm.ClassFile.FieldType.int) ∈ WL := WL_in (tm3 (List.mem_of_getElem? (i := 238) rfl)) rfl
theorem wk3_239 : Jvm.Cond.methodLink "BooksMovedLaw" (54 : Nat) ({ cls := "BooksMovedModel", name := "shelf", desc := "(I)I" } : Jvm.MethodName) ∈ WL := WL_in (tm3 (List.mem_of_getElem? (i := 239) (by decide +kernel))) rfl
theorem wk4_0 : Jvm.Cond.instanceMethod ({ cls := "BooksMovedModel", name := "shelf", desc := "(I)I" } : Jvm.MethodName) ∈ WL := WL_in (tm4 (List.mem_of_getElem? (i := 0) (by decide +kernel))) rfl
theorem wk4_1 : Jvm.Cond.selects "BooksMovedModel" ({ cls := "BooksMovedModel", name := "shelf", desc := "(I)I" } : Jvm.MethodName) ({ cls := "BooksMovedModel", name := "shelf", desc := "(I)I" } : Jvm.MethodName) ∈ WL := WL_in (tm4 (List.mem_of_getElem? (i := 1) (by decide +kernel))) rfl
theorem wk4_2 : Jvm.Cond.code ({ cls := "BooksMovedModel", name := "shelf", desc := "(I)I" } : Jvm.MethodName) prog_9_method_20_code (2 : Nat) (Option.some Jvm.ClassFile.FieldType.int) ∈ WL := WL_in (tm4 (List.mem_of_getElem? (i := 2) rfl)) rfl
theorem wk4_3 : Jvm.Cond.methodLink "BooksMovedLaw" (59 : Nat) ({ cls := "BooksMovedModel", name := "sizes", desc := "(II)Z" } : Jvm.MethodName) ∈ WL := WL_in (tm4 (List.mem_of_getElem? (i := 3) (by decide +kernel))) rfl
theorem wk4_4 : Jvm.Cond.instanceMethod ({ cls := "BooksMovedModel", name := "sizes", desc := "(II)Z" } : Jvm.MethodName) ∈ WL := WL_in (tm4 (List.mem_of_getElem? (i := 4) (by decide +kernel))) rfl
theorem wk4_5 : Jvm.Cond.selects "BooksMovedModel" ({ cls := "BooksMovedModel", name := "sizes", desc := "(II)Z" } : Jvm.MethodName) ({ cls := "BooksMovedModel", name := "sizes", desc := "(II)Z" } : Jvm.MethodName) ∈ WL := WL_in (tm4 (List.mem_of_getElem? (i := 5) (by decide +kernel))) rfl
theorem wk4_6 : Jvm.Cond.code ({ cls := "BooksMovedModel", name := "sizes", desc := "(II)Z" } : Jvm.MethodName) prog_9_method_21_code (3 : Nat) (Option.some Jvm.ClassFile.FieldType.boolean) ∈ WL := WL_in (tm4 (List.mem_of_getElem? (i := 6) rfl)) rfl
theorem wk4_7 : Jvm.Cond.methodLink "BooksMovedLaw" (63 : Nat) ({ cls := "BooksMovedModel", name := "laid", desc := "(II)I" } : Jvm.MethodName) ∈ WL := WL_in (tm4 (List.mem_of_getElem? (i := 7) (by decide +kernel))) rfl
theorem wk4_8 : Jvm.Cond.instanceMethod ({ cls := "BooksMovedModel", name := "laid", desc := "(II)I" } : Jvm.MethodName) ∈ WL := WL_in (tm4 (List.mem_of_getElem? (i := 8) (by decide +kernel))) rfl
theorem wk4_9 : Jvm.Cond.selects "BooksMovedModel" ({ cls := "BooksMovedModel", name := "laid", desc := "(II)I" } : Jvm.MethodName) ({ cls := "BooksMovedModel", name := "laid", desc := "(II)I" } : Jvm.MethodName) ∈ WL := WL_in (tm4 (List.mem_of_getElem? (i := 9) (by decide +kernel))) rfl
theorem wk4_10 : Jvm.Cond.code ({ cls := "BooksMovedModel", name := "laid", desc := "(II)I" } : Jvm.MethodName) prog_9_method_23_code (3 : Nat) (Option.some Jvm.ClassFile.FieldType.int) ∈ WL := WL_in (tm4 (List.mem_of_getElem? (i := 10) rfl)) rfl
theorem wk4_11 : Jvm.Cond.methodLink "BooksMovedModel" (157 : Nat) ({ cls := "BooksMovedModel", name := "lay", desc := "()V" } : Jvm.MethodName) ∈ WL := WL_in (tm4 (List.mem_of_getElem? (i := 11) (by decide +kernel))) rfl
theorem wk4_13 : Jvm.Cond.instanceMethod ({ cls := "BooksMovedModel", name := "lay", desc := "()V" } : Jvm.MethodName) ∈ WL := WL_in (tm4 (List.mem_of_getElem? (i := 13) (by decide +kernel))) rfl
theorem wk4_14 : Jvm.Cond.code ({ cls := "BooksMovedModel", name := "lay", desc := "()V" } : Jvm.MethodName) prog_9_method_22_code (5 : Nat) (Option.none : Option Jvm.ClassFile.FieldType) ∈ WL := WL_in (tm4 (List.mem_of_getElem? (i := 14) rfl)) rfl
theorem wk4_15 : Jvm.Cond.methodLink "BooksMovedLaw" (67 : Nat) ({ cls := "BooksMovedModel", name := "shelfOf", desc := "(II)I" } : Jvm.MethodName) ∈ WL := WL_in (tm4 (List.mem_of_getElem? (i := 15) (by decide +kernel))) rfl
theorem wk4_16 : Jvm.Cond.instanceMethod ({ cls := "BooksMovedModel", name := "shelfOf", desc := "(II)I" } : Jvm.MethodName) ∈ WL := WL_in (tm4 (List.mem_of_getElem? (i := 16) (by decide +kernel))) rfl
theorem wk4_17 : Jvm.Cond.selects "BooksMovedModel" ({ cls := "BooksMovedModel", name := "shelfOf", desc := "(II)I" } : Jvm.MethodName) ({ cls := "BooksMovedModel", name := "shelfOf", desc := "(II)I" } : Jvm.MethodName) ∈ WL := WL_in (tm4 (List.mem_of_getElem? (i := 17) (by decide +kernel))) rfl
theorem wk4_18 : Jvm.Cond.code ({ cls := "BooksMovedModel", name := "shelfOf", desc := "(II)I" } : Jvm.MethodName) prog_9_method_24_code (3 : Nat) (Option.some Jvm.ClassFile.FieldType.int) ∈ WL := WL_in (tm4 (List.mem_of_getElem? (i := 18) rfl)) rfl
theorem wk4_19 : Jvm.Cond.methodLink "BooksMovedLaw" (71 : Nat) ({ cls := "BooksMovedModel", name := "counts", desc := "(I)I" } : Jvm.MethodName) ∈ WL := WL_in (tm4 (List.mem_of_getElem? (i := 19) (by decide +kernel))) rfl
theorem wk4_20 : Jvm.Cond.instanceMethod ({ cls := "BooksMovedModel", name := "counts", desc := "(I)I" } : Jvm.MethodName) ∈ WL := WL_in (tm4 (List.mem_of_getElem? (i := 20) (by decide +kernel))) rfl
theorem wk4_21 : Jvm.Cond.selects "BooksMovedModel" ({ cls := "BooksMovedModel", name := "counts", desc := "(I)I" } : Jvm.MethodName) ({ cls := "BooksMovedModel", name := "counts", desc := "(I)I" } : Jvm.MethodName) ∈ WL := WL_in (tm4 (List.mem_of_getElem? (i := 21) (by decide +kernel))) rfl
theorem wk4_22 : Jvm.Cond.code ({ cls := "BooksMovedModel", name := "counts", desc := "(I)I" } : Jvm.MethodName) prog_9_method_25_code (2 : Nat) (Option.some Jvm.ClassFile.FieldType.int) ∈ WL := WL_in (tm4 (List.mem_of_getElem? (i := 22) rfl)) rfl
theorem wk4_23 : Jvm.Cond.methodLink "BooksMovedModel" (160 : Nat) ({ cls := "BooksMovedModel", name := "pack", desc := "()V" } : Jvm.MethodName) ∈ WL := WL_in (tm4 (List.mem_of_getElem? (i := 23) (by decide +kernel))) rfl
theorem wk4_25 : Jvm.Cond.instanceMethod ({ cls := "BooksMovedModel", name := "pack", desc := "()V" } : Jvm.MethodName) ∈ WL := WL_in (tm4 (List.mem_of_getElem? (i := 25) (by decide +kernel))) rfl
theorem wk4_26 : Jvm.Cond.code ({ cls := "BooksMovedModel", name := "pack", desc := "()V" } : Jvm.MethodName) prog_9_method_26_code (4 : Nat) (Option.none : Option Jvm.ClassFile.FieldType) ∈ WL := WL_in (tm4 (List.mem_of_getElem? (i := 26) rfl)) rfl
theorem wk4_27 : Jvm.Cond.methodLink "BooksMovedModel" (166 : Nat) ({ cls := "BooksMovedModel", name := "meet", desc := "()V" } : Jvm.MethodName) ∈ WL := WL_in (tm4 (List.mem_of_getElem? (i := 27) (by decide +kernel))) rfl
theorem wk4_29 : Jvm.Cond.instanceMethod ({ cls := "BooksMovedModel", name := "meet", desc := "()V" } : Jvm.MethodName) ∈ WL := WL_in (tm4 (List.mem_of_getElem? (i := 29) (by decide +kernel))) rfl
theorem wk4_30 : Jvm.Cond.code ({ cls := "BooksMovedModel", name := "meet", desc := "()V" } : Jvm.MethodName) prog_9_method_27_code (5 : Nat) (Option.none : Option Jvm.ClassFile.FieldType) ∈ WL := WL_in (tm4 (List.mem_of_getElem? (i := 30) rfl)) rfl
theorem wk4_31 : Jvm.Cond.methodLink "BooksMovedLaw" (75 : Nat) ({ cls := "BooksMovedModel", name := "way", desc := "(II)Z" } : Jvm.MethodName) ∈ WL := WL_in (tm4 (List.mem_of_getElem? (i := 31) (by decide +kernel))) rfl
theorem wk4_32 : Jvm.Cond.instanceMethod ({ cls := "BooksMovedModel", name := "way", desc := "(II)Z" } : Jvm.MethodName) ∈ WL := WL_in (tm4 (List.mem_of_getElem? (i := 32) (by decide +kernel))) rfl
theorem wk4_33 : Jvm.Cond.selects "BooksMovedModel" ({ cls := "BooksMovedModel", name := "way", desc := "(II)Z" } : Jvm.MethodName) ({ cls := "BooksMovedModel", name := "way", desc := "(II)Z" } : Jvm.MethodName) ∈ WL := WL_in (tm4 (List.mem_of_getElem? (i := 33) (by decide +kernel))) rfl
theorem wk4_34 : Jvm.Cond.code ({ cls := "BooksMovedModel", name := "way", desc := "(II)Z" } : Jvm.MethodName) prog_9_method_28_code (3 : Nat) (Option.some Jvm.ClassFile.FieldType.boolean) ∈ WL := WL_in (tm4 (List.mem_of_getElem? (i := 34) rfl)) rfl
theorem wk4_35 : Jvm.Cond.methodLink "BooksMovedLaw" (79 : Nat) ({ cls := "BooksMovedModel", name := "crate", desc := "(II)I" } : Jvm.MethodName) ∈ WL := WL_in (tm4 (List.mem_of_getElem? (i := 35) (by decide +kernel))) rfl
theorem wk4_36 : Jvm.Cond.instanceMethod ({ cls := "BooksMovedModel", name := "crate", desc := "(II)I" } : Jvm.MethodName) ∈ WL := WL_in (tm4 (List.mem_of_getElem? (i := 36) (by decide +kernel))) rfl
theorem wk4_37 : Jvm.Cond.selects "BooksMovedModel" ({ cls := "BooksMovedModel", name := "crate", desc := "(II)I" } : Jvm.MethodName) ({ cls := "BooksMovedModel", name := "crate", desc := "(II)I" } : Jvm.MethodName) ∈ WL := WL_in (tm4 (List.mem_of_getElem? (i := 37) (by decide +kernel))) rfl
theorem wk4_38 : Jvm.Cond.code ({ cls := "BooksMovedModel", name := "crate", desc := "(II)I" } : Jvm.MethodName) prog_9_method_29_code (3 : Nat) (Option.some Jvm.ClassFile.FieldType.int) ∈ WL := WL_in (tm4 (List.mem_of_getElem? (i := 38) rfl)) rfl
theorem wk4_39 : Jvm.Cond.methodLink "BooksMovedLaw" (83 : Nat) ({ cls := "BooksMovedModel", name := "meeting", desc := "(I)I" } : Jvm.MethodName) ∈ WL := WL_in (tm4 (List.mem_of_getElem? (i := 39) (by decide +kernel))) rfl
theorem wk4_40 : Jvm.Cond.instanceMethod ({ cls := "BooksMovedModel", name := "meeting", desc := "(I)I" } : Jvm.MethodName) ∈ WL := WL_in (tm4 (List.mem_of_getElem? (i := 40) (by decide +kernel))) rfl
theorem wk4_41 : Jvm.Cond.selects "BooksMovedModel" ({ cls := "BooksMovedModel", name := "meeting", desc := "(I)I" } : Jvm.MethodName) ({ cls := "BooksMovedModel", name := "meeting", desc := "(I)I" } : Jvm.MethodName) ∈ WL := WL_in (tm4 (List.mem_of_getElem? (i := 41) (by decide +kernel))) rfl
theorem wk4_42 : Jvm.Cond.code ({ cls := "BooksMovedModel", name := "meeting", desc := "(I)I" } : Jvm.MethodName) prog_9_method_30_code (2 : Nat) (Option.some Jvm.ClassFile.FieldType.int) ∈ WL := WL_in (tm4 (List.mem_of_getElem? (i := 42) rfl)) rfl
theorem wk4_43 : Jvm.Cond.methodLink "BooksMovedLaw" (87 : Nat) ({ cls := "BooksMovedModel", name := "where", desc := "(III)I" } : Jvm.MethodName) ∈ WL := WL_in (tm4 (List.mem_of_getElem? (i := 43) (by decide +kernel))) rfl
theorem wk4_44 : Jvm.Cond.instanceMethod ({ cls := "BooksMovedModel", name := "where", desc := "(III)I" } : Jvm.MethodName) ∈ WL := WL_in (tm4 (List.mem_of_getElem? (i := 44) (by decide +kernel))) rfl
theorem wk4_45 : Jvm.Cond.selects "BooksMovedModel" ({ cls := "BooksMovedModel", name := "where", desc := "(III)I" } : Jvm.MethodName) ({ cls := "BooksMovedModel", name := "where", desc := "(III)I" } : Jvm.MethodName) ∈ WL := WL_in (tm4 (List.mem_of_getElem? (i := 45) (by decide +kernel))) rfl
theorem wk4_46 : Jvm.Cond.code ({ cls := "BooksMovedModel", name := "where", desc := "(III)I" } : Jvm.MethodName) prog_9_method_31_code (7 : Nat) (Option.some Jvm.ClassFile.FieldType.int) ∈ WL := WL_in (tm4 (List.mem_of_getElem? (i := 46) rfl)) rfl
theorem wk4_47 : Jvm.Cond.constant "BooksMovedModel" (175 : Nat) (100000 : Int32) ∈ WL := WL_in (tm4 (List.mem_of_getElem? (i := 47) (by decide +kernel))) rfl
theorem wk4_48 : Jvm.Cond.methodLink "BooksMovedLaw" (91 : Nat) ({ cls := "BooksMovedModel", name := "row", desc := "()I" } : Jvm.MethodName) ∈ WL := WL_in (tm4 (List.mem_of_getElem? (i := 48) (by decide +kernel))) rfl
theorem wk4_49 : Jvm.Cond.instanceMethod ({ cls := "BooksMovedModel", name := "row", desc := "()I" } : Jvm.MethodName) ∈ WL := WL_in (tm4 (List.mem_of_getElem? (i := 49) (by decide +kernel))) rfl
theorem wk4_50 : Jvm.Cond.selects "BooksMovedModel" ({ cls := "BooksMovedModel", name := "row", desc := "()I" } : Jvm.MethodName) ({ cls := "BooksMovedModel", name := "row", desc := "()I" } : Jvm.MethodName) ∈ WL := WL_in (tm4 (List.mem_of_getElem? (i := 50) (by decide +kernel))) rfl
theorem wk4_51 : Jvm.Cond.code ({ cls := "BooksMovedModel", name := "row", desc := "()I" } : Jvm.MethodName) prog_9_method_32_code (2 : Nat) (Option.some Jvm.ClassFile.FieldType.int) ∈ WL := WL_in (tm4 (List.mem_of_getElem? (i := 51) rfl)) rfl
theorem wk4_52 : Jvm.Cond.methodLink "BooksMovedLaw" (95 : Nat) ({ cls := "BooksMovedModel", name := "at", desc := "(I)I" } : Jvm.MethodName) ∈ WL := WL_in (tm4 (List.mem_of_getElem? (i := 52) (by decide +kernel))) rfl
theorem wk4_53 : Jvm.Cond.instanceMethod ({ cls := "BooksMovedModel", name := "at", desc := "(I)I" } : Jvm.MethodName) ∈ WL := WL_in (tm4 (List.mem_of_getElem? (i := 53) (by decide +kernel))) rfl
theorem wk4_54 : Jvm.Cond.selects "BooksMovedModel" ({ cls := "BooksMovedModel", name := "at", desc := "(I)I" } : Jvm.MethodName) ({ cls := "BooksMovedModel", name := "at", desc := "(I)I" } : Jvm.MethodName) ∈ WL := WL_in (tm4 (List.mem_of_getElem? (i := 54) (by decide +kernel))) rfl
theorem wk4_55 : Jvm.Cond.code ({ cls := "BooksMovedModel", name := "at", desc := "(I)I" } : Jvm.MethodName) prog_9_method_33_code (2 : Nat) (Option.some Jvm.ClassFile.FieldType.int) ∈ WL := WL_in (tm4 (List.mem_of_getElem? (i := 55) rfl)) rfl
theorem wk4_56 : Jvm.Cond.methodLink "BooksMovedLaw" (99 : Nat) ({ cls := "BooksMovedModel", name := "misplace", desc := "(II)Z" } : Jvm.MethodName) ∈ WL := WL_in (tm4 (List.mem_of_getElem? (i := 56) (by decide +kernel))) rfl
theorem wk4_57 : Jvm.Cond.instanceMethod ({ cls := "BooksMovedModel", name := "misplace", desc := "(II)Z" } : Jvm.MethodName) ∈ WL := WL_in (tm4 (List.mem_of_getElem? (i := 57) (by decide +kernel))) rfl
theorem wk4_58 : Jvm.Cond.selects "BooksMovedModel" ({ cls := "BooksMovedModel", name := "misplace", desc := "(II)Z" } : Jvm.MethodName) ({ cls := "BooksMovedModel", name := "misplace", desc := "(II)Z" } : Jvm.MethodName) ∈ WL := WL_in (tm4 (List.mem_of_getElem? (i := 58) (by decide +kernel))) rfl
theorem wk4_59 : Jvm.Cond.code ({ cls := "BooksMovedModel", name := "misplace", desc := "(II)Z" } : Jvm.MethodName) prog_9_method_34_code (5 : Nat) (Option.some Jvm.ClassFile.FieldType.boolean) ∈ WL := WL_in (tm4 (List.mem_of_getElem? (i := 59) rfl)) rfl
theorem wk4_60 : Jvm.Cond.methodLink "BooksMovedLaw" (103 : Nat) ({ cls := "BooksMovedModel", name := "takenOut", desc := "()I" } : Jvm.MethodName) ∈ WL := WL_in (tm4 (List.mem_of_getElem? (i := 60) (by decide +kernel))) rfl
theorem wk4_61 : Jvm.Cond.instanceMethod ({ cls := "BooksMovedModel", name := "takenOut", desc := "()I" } : Jvm.MethodName) ∈ WL := WL_in (tm4 (List.mem_of_getElem? (i := 61) (by decide +kernel))) rfl
theorem wk4_62 : Jvm.Cond.selects "BooksMovedModel" ({ cls := "BooksMovedModel", name := "takenOut", desc := "()I" } : Jvm.MethodName) ({ cls := "BooksMovedModel", name := "takenOut", desc := "()I" } : Jvm.MethodName) ∈ WL := WL_in (tm4 (List.mem_of_getElem? (i := 62) (by decide +kernel))) rfl
theorem wk4_63 : Jvm.Cond.code ({ cls := "BooksMovedModel", name := "takenOut", desc := "()I" } : Jvm.MethodName) prog_9_method_36_code (1 : Nat) (Option.some Jvm.ClassFile.FieldType.int) ∈ WL := WL_in (tm4 (List.mem_of_getElem? (i := 63) rfl)) rfl
theorem wk4_64 : Jvm.Cond.methodLink "BooksMovedModel" (179 : Nat) ({ cls := "BooksMovedModel", name := "takeOut", desc := "()I" } : Jvm.MethodName) ∈ WL := WL_in (tm4 (List.mem_of_getElem? (i := 64) (by decide +kernel))) rfl
theorem wk4_66 : Jvm.Cond.instanceMethod ({ cls := "BooksMovedModel", name := "takeOut", desc := "()I" } : Jvm.MethodName) ∈ WL := WL_in (tm4 (List.mem_of_getElem? (i := 66) (by decide +kernel))) rfl
theorem wk4_67 : Jvm.Cond.code ({ cls := "BooksMovedModel", name := "takeOut", desc := "()I" } : Jvm.MethodName) prog_9_method_35_code (5 : Nat) (Option.some Jvm.ClassFile.FieldType.int) ∈ WL := WL_in (tm4 (List.mem_of_getElem? (i := 67) rfl)) rfl
theorem wk4_68 : Jvm.Cond.methodLink "BooksMovedLaw" (107 : Nat) ({ cls := "BooksMovedModel", name := "isOut", desc := "(I)I" } : Jvm.MethodName) ∈ WL := WL_in (tm4 (List.mem_of_getElem? (i := 68) (by decide +kernel))) rfl
theorem wk4_69 : Jvm.Cond.instanceMethod ({ cls := "BooksMovedModel", name := "isOut", desc := "(I)I" } : Jvm.MethodName) ∈ WL := WL_in (tm4 (List.mem_of_getElem? (i := 69) (by decide +kernel))) rfl
theorem wk4_70 : Jvm.Cond.selects "BooksMovedModel" ({ cls := "BooksMovedModel", name := "isOut", desc := "(I)I" } : Jvm.MethodName) ({ cls := "BooksMovedModel", name := "isOut", desc := "(I)I" } : Jvm.MethodName) ∈ WL := WL_in (tm4 (List.mem_of_getElem? (i := 70) (by decide +kernel))) rfl
theorem wk4_71 : Jvm.Cond.code ({ cls := "BooksMovedModel", name := "isOut", desc := "(I)I" } : Jvm.MethodName) prog_9_method_37_code (2 : Nat) (Option.some Jvm.ClassFile.FieldType.int) ∈ WL := WL_in (tm4 (List.mem_of_getElem? (i := 71) rfl)) rfl
theorem wk4_72 : Jvm.Cond.methodLink "BooksMovedLaw" (111 : Nat) ({ cls := "BooksMovedModel", name := "drawn", desc := "(III)I" } : Jvm.MethodName) ∈ WL := WL_in (tm4 (List.mem_of_getElem? (i := 72) (by decide +kernel))) rfl
theorem wk4_73 : Jvm.Cond.instanceMethod ({ cls := "BooksMovedModel", name := "drawn", desc := "(III)I" } : Jvm.MethodName) ∈ WL := WL_in (tm4 (List.mem_of_getElem? (i := 73) (by decide +kernel))) rfl
theorem wk4_74 : Jvm.Cond.selects "BooksMovedModel" ({ cls := "BooksMovedModel", name := "drawn", desc := "(III)I" } : Jvm.MethodName) ({ cls := "BooksMovedModel", name := "drawn", desc := "(III)I" } : Jvm.MethodName) ∈ WL := WL_in (tm4 (List.mem_of_getElem? (i := 74) (by decide +kernel))) rfl
theorem wk4_75 : Jvm.Cond.code ({ cls := "BooksMovedModel", name := "drawn", desc := "(III)I" } : Jvm.MethodName) prog_9_method_38_code (10 : Nat) (Option.some Jvm.ClassFile.FieldType.int) ∈ WL := WL_in (tm4 (List.mem_of_getElem? (i := 75) rfl)) rfl
theorem wk4_76 : Jvm.Cond.constant "BooksMovedModel" (182 : Nat) (1103515245 : Int32) ∈ WL := WL_in (tm4 (List.mem_of_getElem? (i := 76) (by decide +kernel))) rfl
theorem wk4_77 : Jvm.Cond.methodLink "BooksMovedLaw" (115 : Nat) ({ cls := "BooksMovedModel", name := "about", desc := "(I)I" } : Jvm.MethodName) ∈ WL := WL_in (tm4 (List.mem_of_getElem? (i := 77) (by decide +kernel))) rfl
theorem wk4_78 : Jvm.Cond.instanceMethod ({ cls := "BooksMovedModel", name := "about", desc := "(I)I" } : Jvm.MethodName) ∈ WL := WL_in (tm4 (List.mem_of_getElem? (i := 78) (by decide +kernel))) rfl
theorem wk4_79 : Jvm.Cond.selects "BooksMovedModel" ({ cls := "BooksMovedModel", name := "about", desc := "(I)I" } : Jvm.MethodName) ({ cls := "BooksMovedModel", name := "about", desc := "(I)I" } : Jvm.MethodName) ∈ WL := WL_in (tm4 (List.mem_of_getElem? (i := 79) (by decide +kernel))) rfl
theorem wk4_80 : Jvm.Cond.code ({ cls := "BooksMovedModel", name := "about", desc := "(I)I" } : Jvm.MethodName) prog_9_method_39_code (2 : Nat) (Option.some Jvm.ClassFile.FieldType.int) ∈ WL := WL_in (tm4 (List.mem_of_getElem? (i := 80) rfl)) rfl
theorem wkp_0 : Jvm.Cond.selects "BooksMoved$Mark" ({ cls := "BooksMoved$Mark", name := "readBehind", desc := "(LBooksMoved$Tape;II)V" } : Jvm.MethodName) ({ cls := "BooksMoved$Mark", name := "readBehind", desc := "(LBooksMoved$Tape;II)V" } : Jvm.MethodName) ∈ WL := WL_in (tm0 (List.mem_of_getElem? (i := 0) (by decide +kernel))) rfl
theorem wkp_1 : Jvm.Cond.selects "BooksMoved$Mark" ({ cls := "BooksMoved$Mark", name := "readLetters", desc := "(LBooksMoved$Tape;II)V" } : Jvm.MethodName) ({ cls := "BooksMoved$Mark", name := "readLetters", desc := "(LBooksMoved$Tape;II)V" } : Jvm.MethodName) ∈ WL := WL_in (tm0 (List.mem_of_getElem? (i := 1) (by decide +kernel))) rfl
theorem wkp_2 : Jvm.Cond.selects "BooksMoved" ({ cls := "BooksMoved", name := "forgetWhatFollows", desc := "()V" } : Jvm.MethodName) ({ cls := "BooksMoved", name := "forgetWhatFollows", desc := "()V" } : Jvm.MethodName) ∈ WL := WL_in (tm0 (List.mem_of_getElem? (i := 2) (by decide +kernel))) rfl
theorem wkp_3 : Jvm.Cond.selects "BooksMoved$Books" ({ cls := "BooksMoved$Books", name := "putInOrder", desc := "(II)V" } : Jvm.MethodName) ({ cls := "BooksMoved$Books", name := "putInOrder", desc := "(II)V" } : Jvm.MethodName) ∈ WL := WL_in (tm0 (List.mem_of_getElem? (i := 3) (by decide +kernel))) rfl
theorem wkp_4 : Jvm.Cond.selects "BooksMoved$Books" ({ cls := "BooksMoved$Books", name := "quarrelsWithEarlier", desc := "(I)I" } : Jvm.MethodName) ({ cls := "BooksMoved$Books", name := "quarrelsWithEarlier", desc := "(I)I" } : Jvm.MethodName) ∈ WL := WL_in (tm0 (List.mem_of_getElem? (i := 4) (by decide +kernel))) rfl
theorem wkp_5 : Jvm.Cond.selects "BooksMoved" ({ cls := "BooksMoved", name := "makePlans", desc := "()V" } : Jvm.MethodName) ({ cls := "BooksMoved", name := "makePlans", desc := "()V" } : Jvm.MethodName) ∈ WL := WL_in (tm0 (List.mem_of_getElem? (i := 5) (by decide +kernel))) rfl
theorem wkp_6 : Jvm.Cond.selects "BooksMoved$Shelves" ({ cls := "BooksMoved$Shelves", name := "clear", desc := "()V" } : Jvm.MethodName) ({ cls := "BooksMoved$Shelves", name := "clear", desc := "()V" } : Jvm.MethodName) ∈ WL := WL_in (tm0 (List.mem_of_getElem? (i := 6) (by decide +kernel))) rfl
theorem wkp_7 : Jvm.Cond.selects "BooksMoved$Shelves" ({ cls := "BooksMoved$Shelves", name := "put", desc := "(III)V" } : Jvm.MethodName) ({ cls := "BooksMoved$Shelves", name := "put", desc := "(III)V" } : Jvm.MethodName) ∈ WL := WL_in (tm0 (List.mem_of_getElem? (i := 7) (by decide +kernel))) rfl
theorem wkp_8 : Jvm.Cond.selects "BooksMoved$Crates" ({ cls := "BooksMoved$Crates", name := "setMinutes", desc := "()V" } : Jvm.MethodName) ({ cls := "BooksMoved$Crates", name := "setMinutes", desc := "()V" } : Jvm.MethodName) ∈ WL := WL_in (tm0 (List.mem_of_getElem? (i := 8) (by decide +kernel))) rfl
theorem wkp_9 : Jvm.Cond.selects "BooksMoved$Crates" ({ cls := "BooksMoved$Crates", name := "carryFrom", desc := "(II)I" } : Jvm.MethodName) ({ cls := "BooksMoved$Crates", name := "carryFrom", desc := "(II)I" } : Jvm.MethodName) ∈ WL := WL_in (tm0 (List.mem_of_getElem? (i := 9) (by decide +kernel))) rfl
theorem wkp_10 : Jvm.Cond.selects "BooksMoved" ({ cls := "BooksMoved", name := "lookThrough", desc := "()V" } : Jvm.MethodName) ({ cls := "BooksMoved", name := "lookThrough", desc := "()V" } : Jvm.MethodName) ∈ WL := WL_in (tm0 (List.mem_of_getElem? (i := 10) (by decide +kernel))) rfl
theorem wkp_11 : Jvm.Cond.selects "BooksMoved$Row" ({ cls := "BooksMoved$Row", name := "mostBehind", desc := "(ILBooksMoved$Books;I)I" } : Jvm.MethodName) ({ cls := "BooksMoved$Row", name := "mostBehind", desc := "(ILBooksMoved$Books;I)I" } : Jvm.MethodName) ∈ WL := WL_in (tm0 (List.mem_of_getElem? (i := 11) (by decide +kernel))) rfl
theorem wkp_12 : Jvm.Cond.selects "BooksMovedModel" ({ cls := "BooksMovedModel", name := "four", desc := "(I)V" } : Jvm.MethodName) ({ cls := "BooksMovedModel", name := "four", desc := "(I)V" } : Jvm.MethodName) ∈ WL := WL_in (tm0 (List.mem_of_getElem? (i := 12) (by decide +kernel))) rfl
theorem wkp_13 : Jvm.Cond.selects "BooksMovedModel" ({ cls := "BooksMovedModel", name := "isMark", desc := "(I)Z" } : Jvm.MethodName) ({ cls := "BooksMovedModel", name := "isMark", desc := "(I)Z" } : Jvm.MethodName) ∈ WL := WL_in (tm0 (List.mem_of_getElem? (i := 13) (by decide +kernel))) rfl
theorem wkp_14 : Jvm.Cond.selects "BooksMovedModel" ({ cls := "BooksMovedModel", name := "digitsHere", desc := "()I" } : Jvm.MethodName) ({ cls := "BooksMovedModel", name := "digitsHere", desc := "()I" } : Jvm.MethodName) ∈ WL := WL_in (tm0 (List.mem_of_getElem? (i := 14) (by decide +kernel))) rfl
theorem wkp_15 : Jvm.Cond.selects "BooksMovedModel" ({ cls := "BooksMovedModel", name := "see", desc := "(I)I" } : Jvm.MethodName) ({ cls := "BooksMovedModel", name := "see", desc := "(I)I" } : Jvm.MethodName) ∈ WL := WL_in (tm0 (List.mem_of_getElem? (i := 15) (by decide +kernel))) rfl
theorem wkp_16 : Jvm.Cond.selects "BooksMovedModel" ({ cls := "BooksMovedModel", name := "isBook", desc := "(I)Z" } : Jvm.MethodName) ({ cls := "BooksMovedModel", name := "isBook", desc := "(I)Z" } : Jvm.MethodName) ∈ WL := WL_in (tm0 (List.mem_of_getElem? (i := 16) (by decide +kernel))) rfl
theorem wkp_17 : Jvm.Cond.selects "BooksMovedModel" ({ cls := "BooksMovedModel", name := "against", desc := "(III)I" } : Jvm.MethodName) ({ cls := "BooksMovedModel", name := "against", desc := "(III)I" } : Jvm.MethodName) ∈ WL := WL_in (tm0 (List.mem_of_getElem? (i := 17) (by decide +kernel))) rfl
theorem wkp_18 : Jvm.Cond.selects "BooksMovedModel" ({ cls := "BooksMovedModel", name := "keyOf", desc := "(II)I" } : Jvm.MethodName) ({ cls := "BooksMovedModel", name := "keyOf", desc := "(II)I" } : Jvm.MethodName) ∈ WL := WL_in (tm0 (List.mem_of_getElem? (i := 18) (by decide +kernel))) rfl
theorem wkp_19 : Jvm.Cond.selects "BooksMovedModel" ({ cls := "BooksMovedModel", name := "sort", desc := "(I)V" } : Jvm.MethodName) ({ cls := "BooksMovedModel", name := "sort", desc := "(I)V" } : Jvm.MethodName) ∈ WL := WL_in (tm0 (List.mem_of_getElem? (i := 19) (by decide +kernel))) rfl
theorem wkp_20 : Jvm.Cond.selects "BooksMovedModel" ({ cls := "BooksMovedModel", name := "lay", desc := "()V" } : Jvm.MethodName) ({ cls := "BooksMovedModel", name := "lay", desc := "()V" } : Jvm.MethodName) ∈ WL := WL_in (tm0 (List.mem_of_getElem? (i := 20) (by decide +kernel))) rfl
theorem wkp_21 : Jvm.Cond.selects "BooksMovedModel" ({ cls := "BooksMovedModel", name := "pack", desc := "()V" } : Jvm.MethodName) ({ cls := "BooksMovedModel", name := "pack", desc := "()V" } : Jvm.MethodName) ∈ WL := WL_in (tm0 (List.mem_of_getElem? (i := 21) (by decide +kernel))) rfl
theorem wkp_22 : Jvm.Cond.selects "BooksMovedModel" ({ cls := "BooksMovedModel", name := "meet", desc := "()V" } : Jvm.MethodName) ({ cls := "BooksMovedModel", name := "meet", desc := "()V" } : Jvm.MethodName) ∈ WL := WL_in (tm0 (List.mem_of_getElem? (i := 22) (by decide +kernel))) rfl
theorem wkp_23 : Jvm.Cond.selects "BooksMovedModel" ({ cls := "BooksMovedModel", name := "takeOut", desc := "()I" } : Jvm.MethodName) ({ cls := "BooksMovedModel", name := "takeOut", desc := "()I" } : Jvm.MethodName) ∈ WL := WL_in (tm0 (List.mem_of_getElem? (i := 23) (by decide +kernel))) rfl
theorem wl0_0 : u_lay RX0 TX0 0 ∈ WL := WL_in (tm1 (List.mem_of_getElem? (i := 91) (by decide +kernel))) (by decide +kernel)
theorem wl0_1 : u_lay RX0 TX0 1 ∈ WL := WL_in (tm1 (List.mem_of_getElem? (i := 93) (by decide +kernel))) (by decide +kernel)
theorem wl0_2 : u_lay RX0 TX0 2 ∈ WL := WL_in (tm1 (List.mem_of_getElem? (i := 95) (by decide +kernel))) (by decide +kernel)
theorem wl0_3 : u_lay RX0 TX0 3 ∈ WL := WL_in (tm1 (List.mem_of_getElem? (i := 97) (by decide +kernel))) (by decide +kernel)
theorem wl0_4 : u_lay RX0 TX0 4 ∈ WL := WL_in (tm1 (List.mem_of_getElem? (i := 99) (by decide +kernel))) (by decide +kernel)
theorem wl0_5 : u_lay RX0 TX0 5 ∈ WL := WL_in (tm1 (List.mem_of_getElem? (i := 101) (by decide +kernel))) (by decide +kernel)
theorem wl0_6 : u_lay RX0 TX0 6 ∈ WL := WL_in (tm1 (List.mem_of_getElem? (i := 103) (by decide +kernel))) (by decide +kernel)
theorem wl0_7 : u_lay RX0 TX0 7 ∈ WL := WL_in (tm1 (List.mem_of_getElem? (i := 105) (by decide +kernel))) (by decide +kernel)
theorem inW0 : ∀ w ∈ wsX00, w ∈ WL := by
  intro w hw
  obtain ⟨k, hk, rfl⟩ := List.mem_map.mp hw
  have hk := List.mem_range.mp hk
  match k, hk with
  | 0, _ => exact wl0_0
  | 1, _ => exact wl0_1
  | 2, _ => exact wl0_2
  | 3, _ => exact wl0_3
  | 4, _ => exact wl0_4
  | 5, _ => exact wl0_5
  | 6, _ => exact wl0_6
  | 7, _ => exact wl0_7
  | k + 8, hk => exact absurd hk (by omega)
theorem wl1_0 : u_lay RX1 TX1 0 ∈ WL := WL_in (tm1 (List.mem_of_getElem? (i := 183) (by decide +kernel))) (by decide +kernel)
theorem wl1_1 : u_lay RX1 TX1 1 ∈ WL := WL_in (tm1 (List.mem_of_getElem? (i := 185) (by decide +kernel))) (by decide +kernel)
theorem wl1_2 : u_lay RX1 TX1 2 ∈ WL := WL_in (tm1 (List.mem_of_getElem? (i := 187) (by decide +kernel))) (by decide +kernel)
theorem wl1_3 : u_lay RX1 TX1 3 ∈ WL := WL_in (tm1 (List.mem_of_getElem? (i := 189) (by decide +kernel))) (by decide +kernel)
theorem wl1_4 : u_lay RX1 TX1 4 ∈ WL := WL_in (tm1 (List.mem_of_getElem? (i := 191) (by decide +kernel))) (by decide +kernel)
theorem wl1_5 : u_lay RX1 TX1 5 ∈ WL := WL_in (tm1 (List.mem_of_getElem? (i := 193) (by decide +kernel))) (by decide +kernel)
theorem wl1_6 : u_lay RX1 TX1 6 ∈ WL := WL_in (tm1 (List.mem_of_getElem? (i := 195) (by decide +kernel))) (by decide +kernel)
theorem wl1_7 : u_lay RX1 TX1 7 ∈ WL := WL_in (tm1 (List.mem_of_getElem? (i := 197) (by decide +kernel))) (by decide +kernel)
theorem wl1_8 : u_lay RX1 TX1 8 ∈ WL := WL_in (tm1 (List.mem_of_getElem? (i := 199) (by decide +kernel))) (by decide +kernel)
theorem wl1_9 : u_lay RX1 TX1 9 ∈ WL := WL_in (tm1 (List.mem_of_getElem? (i := 201) (by decide +kernel))) (by decide +kernel)
theorem wl1_10 : u_lay RX1 TX1 10 ∈ WL := WL_in (tm1 (List.mem_of_getElem? (i := 203) (by decide +kernel))) (by decide +kernel)
theorem inW1 : ∀ w ∈ wsX10, w ∈ WL := by
  intro w hw
  obtain ⟨k, hk, rfl⟩ := List.mem_map.mp hw
  have hk := List.mem_range.mp hk
  match k, hk with
  | 0, _ => exact wl1_0
  | 1, _ => exact wl1_1
  | 2, _ => exact wl1_2
  | 3, _ => exact wl1_3
  | 4, _ => exact wl1_4
  | 5, _ => exact wl1_5
  | 6, _ => exact wl1_6
  | 7, _ => exact wl1_7
  | 8, _ => exact wl1_8
  | 9, _ => exact wl1_9
  | 10, _ => exact wl1_10
  | k + 11, hk => exact absurd hk (by omega)
theorem wl2_0 : u_lay RX2 TX2 0 ∈ WL := WL_in (tm1 (List.mem_of_getElem? (i := 48) (by decide +kernel))) (by decide +kernel)
theorem wl2_1 : u_lay RX2 TX2 1 ∈ WL := WL_in (tm1 (List.mem_of_getElem? (i := 50) (by decide +kernel))) (by decide +kernel)
theorem wl2_2 : u_lay RX2 TX2 2 ∈ WL := WL_in (tm1 (List.mem_of_getElem? (i := 52) (by decide +kernel))) (by decide +kernel)
theorem wl2_3 : u_lay RX2 TX2 3 ∈ WL := WL_in (tm1 (List.mem_of_getElem? (i := 54) (by decide +kernel))) (by decide +kernel)
theorem wl2_4 : u_lay RX2 TX2 4 ∈ WL := WL_in (tm1 (List.mem_of_getElem? (i := 56) (by decide +kernel))) (by decide +kernel)
theorem wl2_5 : u_lay RX2 TX2 5 ∈ WL := WL_in (tm1 (List.mem_of_getElem? (i := 58) (by decide +kernel))) (by decide +kernel)
theorem inW2 : ∀ w ∈ wsX20, w ∈ WL := by
  intro w hw
  obtain ⟨k, hk, rfl⟩ := List.mem_map.mp hw
  have hk := List.mem_range.mp hk
  match k, hk with
  | 0, _ => exact wl2_0
  | 1, _ => exact wl2_1
  | 2, _ => exact wl2_2
  | 3, _ => exact wl2_3
  | 4, _ => exact wl2_4
  | 5, _ => exact wl2_5
  | k + 6, hk => exact absurd hk (by omega)
theorem wl3_0 : u_lay RX3 TX3 0 ∈ WL := WL_in (tm1 (List.mem_of_getElem? (i := 222) (by decide +kernel))) (by decide +kernel)
theorem wl3_1 : u_lay RX3 TX3 1 ∈ WL := WL_in (tm1 (List.mem_of_getElem? (i := 224) (by decide +kernel))) (by decide +kernel)
theorem wl3_2 : u_lay RX3 TX3 2 ∈ WL := WL_in (tm1 (List.mem_of_getElem? (i := 226) (by decide +kernel))) (by decide +kernel)
theorem wl3_3 : u_lay RX3 TX3 3 ∈ WL := WL_in (tm1 (List.mem_of_getElem? (i := 228) (by decide +kernel))) (by decide +kernel)
theorem wl3_4 : u_lay RX3 TX3 4 ∈ WL := WL_in (tm1 (List.mem_of_getElem? (i := 230) (by decide +kernel))) (by decide +kernel)
theorem wl3_5 : u_lay RX3 TX3 5 ∈ WL := WL_in (tm1 (List.mem_of_getElem? (i := 232) (by decide +kernel))) (by decide +kernel)
theorem inW3 : ∀ w ∈ wsX30, w ∈ WL := by
  intro w hw
  obtain ⟨k, hk, rfl⟩ := List.mem_map.mp hw
  have hk := List.mem_range.mp hk
  match k, hk with
  | 0, _ => exact wl3_0
  | 1, _ => exact wl3_1
  | 2, _ => exact wl3_2
  | 3, _ => exact wl3_3
  | 4, _ => exact wl3_4
  | 5, _ => exact wl3_5
  | k + 6, hk => exact absurd hk (by omega)
theorem wl4_0 : u_lay RX4 TX4 0 ∈ WL := WL_in (tm1 (List.mem_of_getElem? (i := 134) (by decide +kernel))) (by decide +kernel)
theorem wl4_1 : u_lay RX4 TX4 1 ∈ WL := WL_in (tm1 (List.mem_of_getElem? (i := 136) (by decide +kernel))) (by decide +kernel)
theorem wl4_2 : u_lay RX4 TX4 2 ∈ WL := WL_in (tm1 (List.mem_of_getElem? (i := 138) (by decide +kernel))) (by decide +kernel)
theorem wl4_3 : u_lay RX4 TX4 3 ∈ WL := WL_in (tm1 (List.mem_of_getElem? (i := 140) (by decide +kernel))) (by decide +kernel)
theorem wl4_4 : u_lay RX4 TX4 4 ∈ WL := WL_in (tm1 (List.mem_of_getElem? (i := 142) (by decide +kernel))) (by decide +kernel)
theorem wl4_5 : u_lay RX4 TX4 5 ∈ WL := WL_in (tm1 (List.mem_of_getElem? (i := 144) (by decide +kernel))) (by decide +kernel)
theorem wl4_6 : u_lay RX4 TX4 6 ∈ WL := WL_in (tm1 (List.mem_of_getElem? (i := 146) (by decide +kernel))) (by decide +kernel)
theorem wl4_7 : u_lay RX4 TX4 7 ∈ WL := WL_in (tm1 (List.mem_of_getElem? (i := 148) (by decide +kernel))) (by decide +kernel)
theorem wl4_8 : u_lay RX4 TX4 8 ∈ WL := WL_in (tm1 (List.mem_of_getElem? (i := 150) (by decide +kernel))) (by decide +kernel)
theorem wl4_9 : u_lay RX4 TX4 9 ∈ WL := WL_in (tm1 (List.mem_of_getElem? (i := 152) (by decide +kernel))) (by decide +kernel)
theorem inW4 : ∀ w ∈ wsX40, w ∈ WL := by
  intro w hw
  obtain ⟨k, hk, rfl⟩ := List.mem_map.mp hw
  have hk := List.mem_range.mp hk
  match k, hk with
  | 0, _ => exact wl4_0
  | 1, _ => exact wl4_1
  | 2, _ => exact wl4_2
  | 3, _ => exact wl4_3
  | 4, _ => exact wl4_4
  | 5, _ => exact wl4_5
  | 6, _ => exact wl4_6
  | 7, _ => exact wl4_7
  | 8, _ => exact wl4_8
  | 9, _ => exact wl4_9
  | k + 10, hk => exact absurd hk (by omega)
theorem wl5_0 : u_lay RX5 TX5 0 ∈ WL := WL_in (tm1 (List.mem_of_getElem? (i := 28) (by decide +kernel))) (by decide +kernel)
theorem wl5_1 : u_lay RX5 TX5 1 ∈ WL := WL_in (tm1 (List.mem_of_getElem? (i := 30) (by decide +kernel))) (by decide +kernel)
theorem inW5 : ∀ w ∈ wsX50, w ∈ WL := by
  intro w hw
  obtain ⟨k, hk, rfl⟩ := List.mem_map.mp hw
  have hk := List.mem_range.mp hk
  match k, hk with
  | 0, _ => exact wl5_0
  | 1, _ => exact wl5_1
  | k + 2, hk => exact absurd hk (by omega)
theorem wl6_0 : u_lay RX6 TX6 0 ∈ WL := WL_in (tm2 (List.mem_of_getElem? (i := 5) (by decide +kernel))) (by decide +kernel)
theorem wl6_1 : u_lay RX6 TX6 1 ∈ WL := WL_in (tm2 (List.mem_of_getElem? (i := 7) (by decide +kernel))) (by decide +kernel)
theorem wl6_2 : u_lay RX6 TX6 2 ∈ WL := WL_in (tm2 (List.mem_of_getElem? (i := 9) (by decide +kernel))) (by decide +kernel)
theorem wl6_3 : u_lay RX6 TX6 3 ∈ WL := WL_in (tm2 (List.mem_of_getElem? (i := 11) (by decide +kernel))) (by decide +kernel)
theorem wl6_4 : u_lay RX6 TX6 4 ∈ WL := WL_in (tm2 (List.mem_of_getElem? (i := 13) (by decide +kernel))) (by decide +kernel)
theorem wl6_5 : u_lay RX6 TX6 5 ∈ WL := WL_in (tm2 (List.mem_of_getElem? (i := 15) (by decide +kernel))) (by decide +kernel)
theorem wl6_6 : u_lay RX6 TX6 6 ∈ WL := WL_in (tm2 (List.mem_of_getElem? (i := 17) (by decide +kernel))) (by decide +kernel)
theorem wl6_7 : u_lay RX6 TX6 7 ∈ WL := WL_in (tm2 (List.mem_of_getElem? (i := 19) (by decide +kernel))) (by decide +kernel)
theorem wl6_8 : u_lay RX6 TX6 8 ∈ WL := WL_in (tm2 (List.mem_of_getElem? (i := 21) (by decide +kernel))) (by decide +kernel)
theorem inW6 : ∀ w ∈ wsX60, w ∈ WL := by
  intro w hw
  obtain ⟨k, hk, rfl⟩ := List.mem_map.mp hw
  have hk := List.mem_range.mp hk
  match k, hk with
  | 0, _ => exact wl6_0
  | 1, _ => exact wl6_1
  | 2, _ => exact wl6_2
  | 3, _ => exact wl6_3
  | 4, _ => exact wl6_4
  | 5, _ => exact wl6_5
  | 6, _ => exact wl6_6
  | 7, _ => exact wl6_7
  | 8, _ => exact wl6_8
  | k + 9, hk => exact absurd hk (by omega)
theorem wl7_0 : u_lay RX7 TX7 0 ∈ WL := WL_in (tm3 (List.mem_of_getElem? (i := 88) (by decide +kernel))) (by decide +kernel)
theorem wl7_1 : u_lay RX7 TX7 1 ∈ WL := WL_in (tm3 (List.mem_of_getElem? (i := 90) (by decide +kernel))) (by decide +kernel)
theorem wl7_2 : u_lay RX7 TX7 2 ∈ WL := WL_in (tm3 (List.mem_of_getElem? (i := 92) (by decide +kernel))) (by decide +kernel)
theorem wl7_3 : u_lay RX7 TX7 3 ∈ WL := WL_in (tm3 (List.mem_of_getElem? (i := 94) (by decide +kernel))) (by decide +kernel)
theorem wl7_4 : u_lay RX7 TX7 4 ∈ WL := WL_in (tm3 (List.mem_of_getElem? (i := 96) (by decide +kernel))) (by decide +kernel)
theorem wl7_5 : u_lay RX7 TX7 5 ∈ WL := WL_in (tm3 (List.mem_of_getElem? (i := 98) (by decide +kernel))) (by decide +kernel)
theorem wl7_6 : u_lay RX7 TX7 6 ∈ WL := WL_in (tm3 (List.mem_of_getElem? (i := 100) (by decide +kernel))) (by decide +kernel)
theorem wl7_7 : u_lay RX7 TX7 7 ∈ WL := WL_in (tm3 (List.mem_of_getElem? (i := 102) (by decide +kernel))) (by decide +kernel)
theorem wl7_8 : u_lay RX7 TX7 8 ∈ WL := WL_in (tm3 (List.mem_of_getElem? (i := 104) (by decide +kernel))) (by decide +kernel)
theorem wl7_9 : u_lay RX7 TX7 9 ∈ WL := WL_in (tm3 (List.mem_of_getElem? (i := 106) (by decide +kernel))) (by decide +kernel)
theorem wl7_10 : u_lay RX7 TX7 10 ∈ WL := WL_in (tm3 (List.mem_of_getElem? (i := 108) (by decide +kernel))) (by decide +kernel)
theorem wl7_11 : u_lay RX7 TX7 11 ∈ WL := WL_in (tm3 (List.mem_of_getElem? (i := 110) (by decide +kernel))) (by decide +kernel)
theorem wl7_12 : u_lay RX7 TX7 12 ∈ WL := WL_in (tm3 (List.mem_of_getElem? (i := 112) (by decide +kernel))) (by decide +kernel)
theorem wl7_13 : u_lay RX7 TX7 13 ∈ WL := WL_in (tm3 (List.mem_of_getElem? (i := 114) (by decide +kernel))) (by decide +kernel)
theorem wl7_14 : u_lay RX7 TX7 14 ∈ WL := WL_in (tm3 (List.mem_of_getElem? (i := 116) (by decide +kernel))) (by decide +kernel)
theorem wl7_15 : u_lay RX7 TX7 15 ∈ WL := WL_in (tm3 (List.mem_of_getElem? (i := 118) (by decide +kernel))) (by decide +kernel)
theorem wl7_16 : u_lay RX7 TX7 16 ∈ WL := WL_in (tm3 (List.mem_of_getElem? (i := 120) (by decide +kernel))) (by decide +kernel)
theorem wl7_17 : u_lay RX7 TX7 17 ∈ WL := WL_in (tm3 (List.mem_of_getElem? (i := 122) (by decide +kernel))) (by decide +kernel)
theorem wl7_18 : u_lay RX7 TX7 18 ∈ WL := WL_in (tm3 (List.mem_of_getElem? (i := 124) (by decide +kernel))) (by decide +kernel)
theorem wl7_19 : u_lay RX7 TX7 19 ∈ WL := WL_in (tm3 (List.mem_of_getElem? (i := 126) (by decide +kernel))) (by decide +kernel)
theorem wl7_20 : u_lay RX7 TX7 20 ∈ WL := WL_in (tm3 (List.mem_of_getElem? (i := 128) (by decide +kernel))) (by decide +kernel)
theorem wl7_21 : u_lay RX7 TX7 21 ∈ WL := WL_in (tm3 (List.mem_of_getElem? (i := 130) (by decide +kernel))) (by decide +kernel)
theorem wl7_22 : u_lay RX7 TX7 22 ∈ WL := WL_in (tm3 (List.mem_of_getElem? (i := 132) (by decide +kernel))) (by decide +kernel)
theorem wl7_23 : u_lay RX7 TX7 23 ∈ WL := WL_in (tm3 (List.mem_of_getElem? (i := 134) (by decide +kernel))) (by decide +kernel)
theorem wl7_24 : u_lay RX7 TX7 24 ∈ WL := WL_in (tm3 (List.mem_of_getElem? (i := 136) (by decide +kernel))) (by decide +kernel)
theorem wl7_25 : u_lay RX7 TX7 25 ∈ WL := WL_in (tm3 (List.mem_of_getElem? (i := 138) (by decide +kernel))) (by decide +kernel)
theorem wl7_26 : u_lay RX7 TX7 26 ∈ WL := WL_in (tm3 (List.mem_of_getElem? (i := 140) (by decide +kernel))) (by decide +kernel)
theorem wl7_27 : u_lay RX7 TX7 27 ∈ WL := WL_in (tm3 (List.mem_of_getElem? (i := 142) (by decide +kernel))) (by decide +kernel)
theorem wl7_28 : u_lay RX7 TX7 28 ∈ WL := WL_in (tm3 (List.mem_of_getElem? (i := 144) (by decide +kernel))) (by decide +kernel)
theorem wl7_29 : u_lay RX7 TX7 29 ∈ WL := WL_in (tm3 (List.mem_of_getElem? (i := 146) (by decide +kernel))) (by decide +kernel)
theorem wl7_30 : u_lay RX7 TX7 30 ∈ WL := WL_in (tm3 (List.mem_of_getElem? (i := 148) (by decide +kernel))) (by decide +kernel)
theorem wl7_31 : u_lay RX7 TX7 31 ∈ WL := WL_in (tm3 (List.mem_of_getElem? (i := 150) (by decide +kernel))) (by decide +kernel)
theorem wl7_32 : u_lay RX7 TX7 32 ∈ WL := WL_in (tm3 (List.mem_of_getElem? (i := 152) (by decide +kernel))) (by decide +kernel)
theorem wl7_33 : u_lay RX7 TX7 33 ∈ WL := WL_in (tm3 (List.mem_of_getElem? (i := 154) (by decide +kernel))) (by decide +kernel)
theorem wl7_34 : u_lay RX7 TX7 34 ∈ WL := WL_in (tm3 (List.mem_of_getElem? (i := 156) (by decide +kernel))) (by decide +kernel)
theorem wl7_35 : u_lay RX7 TX7 35 ∈ WL := WL_in (tm3 (List.mem_of_getElem? (i := 158) (by decide +kernel))) (by decide +kernel)
theorem wl7_36 : u_lay RX7 TX7 36 ∈ WL := WL_in (tm3 (List.mem_of_getElem? (i := 160) (by decide +kernel))) (by decide +kernel)
theorem wl7_37 : u_lay RX7 TX7 37 ∈ WL := WL_in (tm3 (List.mem_of_getElem? (i := 162) (by decide +kernel))) (by decide +kernel)
theorem wl7_38 : u_lay RX7 TX7 38 ∈ WL := WL_in (tm3 (List.mem_of_getElem? (i := 164) (by decide +kernel))) (by decide +kernel)
theorem wl7_39 : u_lay RX7 TX7 39 ∈ WL := WL_in (tm3 (List.mem_of_getElem? (i := 166) (by decide +kernel))) (by decide +kernel)
theorem inW7 : ∀ w ∈ wsX70, w ∈ WL := by
  intro w hw
  obtain ⟨k, hk, rfl⟩ := List.mem_map.mp hw
  have hk := List.mem_range.mp hk
  match k, hk with
  | 0, _ => exact wl7_0
  | 1, _ => exact wl7_1
  | 2, _ => exact wl7_2
  | 3, _ => exact wl7_3
  | 4, _ => exact wl7_4
  | 5, _ => exact wl7_5
  | 6, _ => exact wl7_6
  | 7, _ => exact wl7_7
  | 8, _ => exact wl7_8
  | 9, _ => exact wl7_9
  | 10, _ => exact wl7_10
  | 11, _ => exact wl7_11
  | 12, _ => exact wl7_12
  | 13, _ => exact wl7_13
  | 14, _ => exact wl7_14
  | 15, _ => exact wl7_15
  | 16, _ => exact wl7_16
  | 17, _ => exact wl7_17
  | 18, _ => exact wl7_18
  | 19, _ => exact wl7_19
  | 20, _ => exact wl7_20
  | 21, _ => exact wl7_21
  | 22, _ => exact wl7_22
  | 23, _ => exact wl7_23
  | 24, _ => exact wl7_24
  | 25, _ => exact wl7_25
  | 26, _ => exact wl7_26
  | 27, _ => exact wl7_27
  | 28, _ => exact wl7_28
  | 29, _ => exact wl7_29
  | 30, _ => exact wl7_30
  | 31, _ => exact wl7_31
  | 32, _ => exact wl7_32
  | 33, _ => exact wl7_33
  | 34, _ => exact wl7_34
  | 35, _ => exact wl7_35
  | 36, _ => exact wl7_36
  | 37, _ => exact wl7_37
  | 38, _ => exact wl7_38
  | 39, _ => exact wl7_39
  | k + 40, hk => exact absurd hk (by omega)
end
