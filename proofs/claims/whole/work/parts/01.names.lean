-- ===== PART A: goes FIRST, ahead of the names: the tables' words, and 'selects' of the private methods out of them =====
/-- a private method of a class that the tables say can be made, by its rows of tables_1 -/
def lw_okq (q : MethodName × Nat) : Prop := (q.1.cls ≠ "java/lang/invoke/MethodHandle" ∧ q.1.cls ≠ "java/lang/invoke/VarHandle") ∧ Cond.instantiable q.1.cls q.2 ∈ tables_1 ∧ Cond.privateMethod q.1 ∈ tables_1 ∧ Cond.instanceMethod q.1 ∈ tables_1
theorem lw_p0 : lw_okq (⟨"BooksMoved$Mark", "readBehind", "(LBooksMoved$Tape;II)V"⟩, 6) := ⟨⟨by decide +kernel, by decide +kernel⟩, List.mem_of_getElem? (i := 35) (by decide +kernel), List.mem_of_getElem? (i := 304) (by decide +kernel), List.mem_of_getElem? (i := 305) (by decide +kernel)⟩
theorem lw_p1 : lw_okq (⟨"BooksMoved$Mark", "readLetters", "(LBooksMoved$Tape;II)V"⟩, 6) := ⟨⟨by decide +kernel, by decide +kernel⟩, List.mem_of_getElem? (i := 35) (by decide +kernel), List.mem_of_getElem? (i := 315) (by decide +kernel), List.mem_of_getElem? (i := 316) (by decide +kernel)⟩
theorem lw_p2 : lw_okq (⟨"BooksMoved", "forgetWhatFollows", "()V"⟩, 9) := ⟨⟨by decide +kernel, by decide +kernel⟩, List.mem_of_getElem? (i := 11) (by decide +kernel), List.mem_of_getElem? (i := 319) (by decide +kernel), List.mem_of_getElem? (i := 320) (by decide +kernel)⟩
theorem lw_p3 : lw_okq (⟨"BooksMoved$Books", "putInOrder", "(II)V"⟩, 8) := ⟨⟨by decide +kernel, by decide +kernel⟩, List.mem_of_getElem? (i := 62) (by decide +kernel), List.mem_of_getElem? (i := 333) (by decide +kernel), List.mem_of_getElem? (i := 334) (by decide +kernel)⟩
theorem lw_p4 : lw_okq (⟨"BooksMoved$Books", "quarrelsWithEarlier", "(I)I"⟩, 8) := ⟨⟨by decide +kernel, by decide +kernel⟩, List.mem_of_getElem? (i := 62) (by decide +kernel), List.mem_of_getElem? (i := 341) (by decide +kernel), List.mem_of_getElem? (i := 342) (by decide +kernel)⟩
theorem lw_p5 : lw_okq (⟨"BooksMoved", "makePlans", "()V"⟩, 9) := ⟨⟨by decide +kernel, by decide +kernel⟩, List.mem_of_getElem? (i := 11) (by decide +kernel), List.mem_of_getElem? (i := 390) (by decide +kernel), List.mem_of_getElem? (i := 391) (by decide +kernel)⟩
theorem lw_p6 : lw_okq (⟨"BooksMoved$Shelves", "clear", "()V"⟩, 10) := ⟨⟨by decide +kernel, by decide +kernel⟩, List.mem_of_getElem? (i := 110) (by decide +kernel), List.mem_of_getElem? (i := 398) (by decide +kernel), List.mem_of_getElem? (i := 399) (by decide +kernel)⟩
theorem lw_p7 : lw_okq (⟨"BooksMoved$Shelves", "put", "(III)V"⟩, 10) := ⟨⟨by decide +kernel, by decide +kernel⟩, List.mem_of_getElem? (i := 110) (by decide +kernel), List.mem_of_getElem? (i := 406) (by decide +kernel), List.mem_of_getElem? (i := 407) (by decide +kernel)⟩
theorem lw_p8 : lw_okq (⟨"BooksMoved$Crates", "setMinutes", "()V"⟩, 11) := ⟨⟨by decide +kernel, by decide +kernel⟩, List.mem_of_getElem? (i := 156) (by decide +kernel), List.mem_of_getElem? (i := 421) (by decide +kernel), List.mem_of_getElem? (i := 422) (by decide +kernel)⟩
theorem lw_p9 : lw_okq (⟨"BooksMoved$Crates", "carryFrom", "(II)I"⟩, 11) := ⟨⟨by decide +kernel, by decide +kernel⟩, List.mem_of_getElem? (i := 156) (by decide +kernel), List.mem_of_getElem? (i := 425) (by decide +kernel), List.mem_of_getElem? (i := 426) (by decide +kernel)⟩
theorem lw_p10 : lw_okq (⟨"BooksMoved", "lookThrough", "()V"⟩, 9) := ⟨⟨by decide +kernel, by decide +kernel⟩, List.mem_of_getElem? (i := 11) (by decide +kernel), List.mem_of_getElem? (i := 492) (by decide +kernel), List.mem_of_getElem? (i := 493) (by decide +kernel)⟩
theorem lw_p11 : lw_okq (⟨"BooksMoved$Row", "mostBehind", "(ILBooksMoved$Books;I)I"⟩, 6) := ⟨⟨by decide +kernel, by decide +kernel⟩, List.mem_of_getElem? (i := 207) (by decide +kernel), List.mem_of_getElem? (i := 500) (by decide +kernel), List.mem_of_getElem? (i := 501) (by decide +kernel)⟩
theorem lw_p12 : lw_okq (⟨"BooksMovedModel", "four", "(I)V"⟩, 40) := ⟨⟨by decide +kernel, by decide +kernel⟩, List.mem_of_getElem? (i := 523) (by decide +kernel), List.mem_of_getElem? (i := 654) (by decide +kernel), List.mem_of_getElem? (i := 655) (by decide +kernel)⟩
theorem lw_p13 : lw_okq (⟨"BooksMovedModel", "isMark", "(I)Z"⟩, 40) := ⟨⟨by decide +kernel, by decide +kernel⟩, List.mem_of_getElem? (i := 523) (by decide +kernel), List.mem_of_getElem? (i := 669) (by decide +kernel), List.mem_of_getElem? (i := 670) (by decide +kernel)⟩
theorem lw_p14 : lw_okq (⟨"BooksMovedModel", "digitsHere", "()I"⟩, 40) := ⟨⟨by decide +kernel, by decide +kernel⟩, List.mem_of_getElem? (i := 523) (by decide +kernel), List.mem_of_getElem? (i := 673) (by decide +kernel), List.mem_of_getElem? (i := 674) (by decide +kernel)⟩
theorem lw_p15 : lw_okq (⟨"BooksMovedModel", "see", "(I)I"⟩, 40) := ⟨⟨by decide +kernel, by decide +kernel⟩, List.mem_of_getElem? (i := 523) (by decide +kernel), List.mem_of_getElem? (i := 677) (by decide +kernel), List.mem_of_getElem? (i := 678) (by decide +kernel)⟩
def lw_privs_1 : List (MethodName × Nat) := [(⟨"BooksMoved$Mark", "readBehind", "(LBooksMoved$Tape;II)V"⟩, 6), (⟨"BooksMoved$Mark", "readLetters", "(LBooksMoved$Tape;II)V"⟩, 6), (⟨"BooksMoved", "forgetWhatFollows", "()V"⟩, 9), (⟨"BooksMoved$Books", "putInOrder", "(II)V"⟩, 8), (⟨"BooksMoved$Books", "quarrelsWithEarlier", "(I)I"⟩, 8), (⟨"BooksMoved", "makePlans", "()V"⟩, 9), (⟨"BooksMoved$Shelves", "clear", "()V"⟩, 10), (⟨"BooksMoved$Shelves", "put", "(III)V"⟩, 10), (⟨"BooksMoved$Crates", "setMinutes", "()V"⟩, 11), (⟨"BooksMoved$Crates", "carryFrom", "(II)I"⟩, 11), (⟨"BooksMoved", "lookThrough", "()V"⟩, 9), (⟨"BooksMoved$Row", "mostBehind", "(ILBooksMoved$Books;I)I"⟩, 6), (⟨"BooksMovedModel", "four", "(I)V"⟩, 40), (⟨"BooksMovedModel", "isMark", "(I)Z"⟩, 40), (⟨"BooksMovedModel", "digitsHere", "()I"⟩, 40), (⟨"BooksMovedModel", "see", "(I)I"⟩, 40)]
theorem lw_r1 : ∀ q ∈ lw_privs_1, lw_okq q := List.forall_mem_cons.mpr ⟨lw_p0, List.forall_mem_cons.mpr ⟨lw_p1, List.forall_mem_cons.mpr ⟨lw_p2, List.forall_mem_cons.mpr ⟨lw_p3, List.forall_mem_cons.mpr ⟨lw_p4, List.forall_mem_cons.mpr ⟨lw_p5, List.forall_mem_cons.mpr ⟨lw_p6, List.forall_mem_cons.mpr ⟨lw_p7, List.forall_mem_cons.mpr ⟨lw_p8, List.forall_mem_cons.mpr ⟨lw_p9, List.forall_mem_cons.mpr ⟨lw_p10, List.forall_mem_cons.mpr ⟨lw_p11, List.forall_mem_cons.mpr ⟨lw_p12, List.forall_mem_cons.mpr ⟨lw_p13, List.forall_mem_cons.mpr ⟨lw_p14, List.forall_mem_cons.mpr ⟨lw_p15, fun _ h => absurd h List.not_mem_nil⟩⟩⟩⟩⟩⟩⟩⟩⟩⟩⟩⟩⟩⟩⟩⟩
theorem lw_p16 : lw_okq (⟨"BooksMovedModel", "isBook", "(I)Z"⟩, 40) := ⟨⟨by decide +kernel, by decide +kernel⟩, List.mem_of_getElem? (i := 523) (by decide +kernel), List.mem_of_getElem? (i := 693) (by decide +kernel), List.mem_of_getElem? (i := 694) (by decide +kernel)⟩
theorem lw_p17 : lw_okq (⟨"BooksMovedModel", "against", "(III)I"⟩, 40) := ⟨⟨by decide +kernel, by decide +kernel⟩, List.mem_of_getElem? (i := 523) (by decide +kernel), List.mem_of_getElem? (i := 697) (by decide +kernel), List.mem_of_getElem? (i := 698) (by decide +kernel)⟩
theorem lw_p18 : lw_okq (⟨"BooksMovedModel", "keyOf", "(II)I"⟩, 40) := ⟨⟨by decide +kernel, by decide +kernel⟩, List.mem_of_getElem? (i := 523) (by decide +kernel), List.mem_of_getElem? (i := 704) (by decide +kernel), List.mem_of_getElem? (i := 705) (by decide +kernel)⟩
theorem lw_p19 : lw_okq (⟨"BooksMovedModel", "sort", "(I)V"⟩, 40) := ⟨⟨by decide +kernel, by decide +kernel⟩, List.mem_of_getElem? (i := 523) (by decide +kernel), List.mem_of_getElem? (i := 712) (by decide +kernel), List.mem_of_getElem? (i := 713) (by decide +kernel)⟩
theorem lw_p20 : lw_okq (⟨"BooksMovedModel", "lay", "()V"⟩, 40) := ⟨⟨by decide +kernel, by decide +kernel⟩, List.mem_of_getElem? (i := 523) (by decide +kernel), List.mem_of_getElem? (i := 732) (by decide +kernel), List.mem_of_getElem? (i := 733) (by decide +kernel)⟩
theorem lw_p21 : lw_okq (⟨"BooksMovedModel", "pack", "()V"⟩, 40) := ⟨⟨by decide +kernel, by decide +kernel⟩, List.mem_of_getElem? (i := 523) (by decide +kernel), List.mem_of_getElem? (i := 744) (by decide +kernel), List.mem_of_getElem? (i := 745) (by decide +kernel)⟩
theorem lw_p22 : lw_okq (⟨"BooksMovedModel", "meet", "()V"⟩, 40) := ⟨⟨by decide +kernel, by decide +kernel⟩, List.mem_of_getElem? (i := 523) (by decide +kernel), List.mem_of_getElem? (i := 748) (by decide +kernel), List.mem_of_getElem? (i := 749) (by decide +kernel)⟩
theorem lw_p23 : lw_okq (⟨"BooksMovedModel", "takeOut", "()I"⟩, 40) := ⟨⟨by decide +kernel, by decide +kernel⟩, List.mem_of_getElem? (i := 523) (by decide +kernel), List.mem_of_getElem? (i := 785) (by decide +kernel), List.mem_of_getElem? (i := 786) (by decide +kernel)⟩
def lw_privs_2 : List (MethodName × Nat) := [(⟨"BooksMovedModel", "isBook", "(I)Z"⟩, 40), (⟨"BooksMovedModel", "against", "(III)I"⟩, 40), (⟨"BooksMovedModel", "keyOf", "(II)I"⟩, 40), (⟨"BooksMovedModel", "sort", "(I)V"⟩, 40), (⟨"BooksMovedModel", "lay", "()V"⟩, 40), (⟨"BooksMovedModel", "pack", "()V"⟩, 40), (⟨"BooksMovedModel", "meet", "()V"⟩, 40), (⟨"BooksMovedModel", "takeOut", "()I"⟩, 40)]
theorem lw_r2 : ∀ q ∈ lw_privs_2, lw_okq q := List.forall_mem_cons.mpr ⟨lw_p16, List.forall_mem_cons.mpr ⟨lw_p17, List.forall_mem_cons.mpr ⟨lw_p18, List.forall_mem_cons.mpr ⟨lw_p19, List.forall_mem_cons.mpr ⟨lw_p20, List.forall_mem_cons.mpr ⟨lw_p21, List.forall_mem_cons.mpr ⟨lw_p22, List.forall_mem_cons.mpr ⟨lw_p23, fun _ h => absurd h List.not_mem_nil⟩⟩⟩⟩⟩⟩⟩⟩
def lw_privs : List (MethodName × Nat) := lw_privs_1 ++ (lw_privs_2)
def lw_tbl : List Cond := k2_sels lw_privs ++ tables_1
theorem lw_privs_ok : ∀ q ∈ lw_privs, lw_okq q := by
  show ∀ q ∈ lw_privs_1 ++ (lw_privs_2), lw_okq q
  exact List.forall_mem_append.mpr ⟨lw_r1, lw_r2⟩
/-! ===== BEGIN printed: names, fields, word lists, decode rows ===== -/
def RX0 : String := "BooksMoved$Books"
def TX0 : u_T := fun k => match k with
  | 0 => ("BooksMoved$Books", "key", "[[J", true)
  | 1 => ("BooksMoved$Books", "order", "[[I", true)
  | 2 => ("BooksMoved$Books", "house", "[I", true)
  | 3 => ("BooksMoved$Books", "thick", "[I", true)
  | 4 => ("BooksMoved$Books", "tall", "[I", true)
  | 5 => ("BooksMoved$Books", "thousand", "[I", true)
  | 6 => ("BooksMoved$Books", "count", "I", false)
  | _ => ("BooksMoved$Books", "quarrelling", "I", false)
def tyX0 : Nat → FieldType := fun k => match k with
  | 0 => .array (.array .long)
  | 1 => .array (.array .int)
  | 2 => .array .int
  | 3 => .array .int
  | 4 => .array .int
  | 5 => .array .int
  | 6 => .int
  | _ => .int
abbrev wsX00 : List Cond := u_ws RX0 TX0 8
theorem nmX0 : ∀ a, a < 8 → ∀ b, b < 8 → a ≠ b → (TX0 a).2.1 ≠ (TX0 b).2.1 := by decide +kernel
theorem tyX0_ok : ∀ k, k < 8 → parseFieldDescriptor (TX0 k).2.2.1 = some (tyX0 k) := by decide +kernel
abbrev cX0_init : ByteArray := prog_2_method_1_code
def yX0_init : MethodName := ⟨RX0, "<init>", "()V"⟩
abbrev cX0_has : ByteArray := prog_2_method_2_code
def yX0_has : MethodName := ⟨RX0, "has", "(I)Z"⟩
abbrev cX0_add : ByteArray := prog_2_method_3_code
def yX0_add : MethodName := ⟨RX0, "add", "(LBooksMoved$Mark;III)I"⟩
abbrev cX0_sign : ByteArray := prog_2_method_4_code
def yX0_sign : MethodName := ⟨RX0, "sign", "(III)I"⟩
abbrev cX0_putInOrder : ByteArray := prog_2_method_5_code
def yX0_putInOrder : MethodName := ⟨RX0, "putInOrder", "(II)V"⟩
abbrev cX0_quarrelsWithEarlier : ByteArray := prog_2_method_6_code
def yX0_quarrelsWithEarlier : MethodName := ⟨RX0, "quarrelsWithEarlier", "(I)I"⟩
def RX1 : String := "BooksMoved$Crates"
def TX1 : u_T := fun k => match k with
  | 0 => ("BooksMoved$Crates", "wayOfHouse", "[I", true)
  | 1 => ("BooksMoved$Crates", "firstBook", "[I", true)
  | 2 => ("BooksMoved$Crates", "booksIn", "[I", true)
  | 3 => ("BooksMoved$Crates", "house", "[I", true)
  | 4 => ("BooksMoved$Crates", "begins", "[I", true)
  | 5 => ("BooksMoved$Crates", "ends", "[I", true)
  | 6 => ("BooksMoved$Crates", "crateOfBook", "[I", true)
  | 7 => ("BooksMoved$Crates", "hold", "I", false)
  | 8 => ("BooksMoved$Crates", "count", "I", false)
  | 9 => ("BooksMoved$Crates", "ofFirstTeam", "I", false)
  | _ => ("BooksMoved$Crates", "bothEnded", "I", false)
def tyX1 : Nat → FieldType := fun k => match k with
  | 0 => .array .int
  | 1 => .array .int
  | 2 => .array .int
  | 3 => .array .int
  | 4 => .array .int
  | 5 => .array .int
  | 6 => .array .int
  | 7 => .int
  | 8 => .int
  | 9 => .int
  | _ => .int
abbrev wsX10 : List Cond := u_ws RX1 TX1 11
theorem nmX1 : ∀ a, a < 11 → ∀ b, b < 11 → a ≠ b → (TX1 a).2.1 ≠ (TX1 b).2.1 := by decide +kernel
theorem tyX1_ok : ∀ k, k < 11 → parseFieldDescriptor (TX1 k).2.2.1 = some (tyX1 k) := by decide +kernel
abbrev cX1_init : ByteArray := prog_3_method_1_code
def yX1_init : MethodName := ⟨RX1, "<init>", "()V"⟩
abbrev cX1_pack : ByteArray := prog_3_method_2_code
def yX1_pack : MethodName := ⟨RX1, "pack", "(LBooksMoved$Books;I)V"⟩
abbrev cX1_meet : ByteArray := prog_3_method_3_code
def yX1_meet : MethodName := ⟨RX1, "meet", "()V"⟩
abbrev cX1_stageOf : ByteArray := prog_3_method_4_code
def yX1_stageOf : MethodName := ⟨RX1, "stageOf", "(II)I"⟩
abbrev cX1_readerHas : ByteArray := prog_3_method_5_code
def yX1_readerHas : MethodName := ⟨RX1, "readerHas", "(II)I"⟩
abbrev cX1_setMinutes : ByteArray := prog_3_method_6_code
def yX1_setMinutes : MethodName := ⟨RX1, "setMinutes", "()V"⟩
abbrev cX1_carryFrom : ByteArray := prog_3_method_7_code
def yX1_carryFrom : MethodName := ⟨RX1, "carryFrom", "(II)I"⟩
def RX2 : String := "BooksMoved$Mark"
def TX2 : u_T := fun k => match k with
  | 0 => ("BooksMoved$Mark", "wrongAt", "I", false)
  | 1 => ("BooksMoved$Mark", "number", "I", false)
  | 2 => ("BooksMoved$Mark", "behind", "I", false)
  | 3 => ("BooksMoved$Mark", "behindDigits", "I", false)
  | 4 => ("BooksMoved$Mark", "behindFromLeft", "I", false)
  | _ => ("BooksMoved$Mark", "letters", "I", false)
def tyX2 : Nat → FieldType := fun k => match k with
  | 0 => .int
  | 1 => .int
  | 2 => .int
  | 3 => .int
  | 4 => .int
  | _ => .int
abbrev wsX20 : List Cond := u_ws RX2 TX2 6
theorem nmX2 : ∀ a, a < 6 → ∀ b, b < 6 → a ≠ b → (TX2 a).2.1 ≠ (TX2 b).2.1 := by decide +kernel
theorem tyX2_ok : ∀ k, k < 6 → parseFieldDescriptor (TX2 k).2.2.1 = some (tyX2 k) := by decide +kernel
abbrev cX2_init : ByteArray := prog_4_method_1_code
def yX2_init : MethodName := ⟨RX2, "<init>", "()V"⟩
abbrev cX2_read : ByteArray := prog_4_method_2_code
def yX2_read : MethodName := ⟨RX2, "read", "(LBooksMoved$Tape;)V"⟩
abbrev cX2_keyBy : ByteArray := prog_4_method_3_code
def yX2_keyBy : MethodName := ⟨RX2, "keyBy", "(I)J"⟩
abbrev cX2_readBehind : ByteArray := prog_4_method_4_code
def yX2_readBehind : MethodName := ⟨RX2, "readBehind", "(LBooksMoved$Tape;II)V"⟩
abbrev cX2_readLetters : ByteArray := prog_4_method_5_code
def yX2_readLetters : MethodName := ⟨RX2, "readLetters", "(LBooksMoved$Tape;II)V"⟩
abbrev cX2_pastDigits : ByteArray := prog_4_method_6_code
def yX2_pastDigits : MethodName := ⟨RX2, "pastDigits", "(LBooksMoved$Tape;I)I"⟩
abbrev cX2_pastLetters : ByteArray := prog_4_method_7_code
def yX2_pastLetters : MethodName := ⟨RX2, "pastLetters", "(LBooksMoved$Tape;I)I"⟩
abbrev cX2_valueOf : ByteArray := prog_4_method_8_code
def yX2_valueOf : MethodName := ⟨RX2, "valueOf", "(LBooksMoved$Tape;II)I"⟩
def RX3 : String := "BooksMoved$Row"
def TX3 : u_T := fun k => match k with
  | 0 => ("BooksMoved$Row", "book", "[I", true)
  | 1 => ("BooksMoved$Row", "out", "[Z", true)
  | 2 => ("BooksMoved$Row", "mostFrom", "[I", true)
  | 3 => ("BooksMoved$Row", "places", "[I", true)
  | 4 => ("BooksMoved$Row", "count", "I", false)
  | _ => ("BooksMoved$Row", "outs", "I", false)
def tyX3 : Nat → FieldType := fun k => match k with
  | 0 => .array .int
  | 1 => .array .boolean
  | 2 => .array .int
  | 3 => .array .int
  | 4 => .int
  | _ => .int
abbrev wsX30 : List Cond := u_ws RX3 TX3 6
theorem nmX3 : ∀ a, a < 6 → ∀ b, b < 6 → a ≠ b → (TX3 a).2.1 ≠ (TX3 b).2.1 := by decide +kernel
theorem tyX3_ok : ∀ k, k < 6 → parseFieldDescriptor (TX3 k).2.2.1 = some (tyX3 k) := by decide +kernel
abbrev cX3_init : ByteArray := prog_5_method_1_code
def yX3_init : MethodName := ⟨RX3, "<init>", "()V"⟩
abbrev cX3_has : ByteArray := prog_5_method_2_code
def yX3_has : MethodName := ⟨RX3, "has", "(I)Z"⟩
abbrev cX3_fill : ByteArray := prog_5_method_3_code
def yX3_fill : MethodName := ⟨RX3, "fill", "([II[I)V"⟩
abbrev cX3_carry : ByteArray := prog_5_method_4_code
def yX3_carry : MethodName := ⟨RX3, "carry", "(II)V"⟩
abbrev cX3_findOuts : ByteArray := prog_5_method_5_code
def yX3_findOuts : MethodName := ⟨RX3, "findOuts", "(LBooksMoved$Books;I)V"⟩
abbrev cX3_mostBehind : ByteArray := prog_5_method_6_code
def yX3_mostBehind : MethodName := ⟨RX3, "mostBehind", "(ILBooksMoved$Books;I)I"⟩
abbrev cX3_draw : ByteArray := prog_5_method_7_code
def yX3_draw : MethodName := ⟨RX3, "draw", "(IILBooksMoved$Books;I)I"⟩
def RX4 : String := "BooksMoved$Shelves"
def TX4 : u_T := fun k => match k with
  | 0 => ("BooksMoved$Shelves", "length", "[I", true)
  | 1 => ("BooksMoved$Shelves", "growth", "[I", true)
  | 2 => ("BooksMoved$Shelves", "booksOn", "[I", true)
  | 3 => ("BooksMoved$Shelves", "needed", "[I", true)
  | 4 => ("BooksMoved$Shelves", "shelfOfBook", "[I", true)
  | 5 => ("BooksMoved$Shelves", "placeOfBook", "[I", true)
  | 6 => ("BooksMoved$Shelves", "count", "I", false)
  | 7 => ("BooksMoved$Shelves", "limit", "I", false)
  | 8 => ("BooksMoved$Shelves", "outsize", "I", false)
  | _ => ("BooksMoved$Shelves", "notLaid", "I", false)
def tyX4 : Nat → FieldType := fun k => match k with
  | 0 => .array .int
  | 1 => .array .int
  | 2 => .array .int
  | 3 => .array .int
  | 4 => .array .int
  | 5 => .array .int
  | 6 => .int
  | 7 => .int
  | 8 => .int
  | _ => .int
abbrev wsX40 : List Cond := u_ws RX4 TX4 10
theorem nmX4 : ∀ a, a < 10 → ∀ b, b < 10 → a ≠ b → (TX4 a).2.1 ≠ (TX4 b).2.1 := by decide +kernel
theorem tyX4_ok : ∀ k, k < 10 → parseFieldDescriptor (TX4 k).2.2.1 = some (tyX4 k) := by decide +kernel
abbrev cX4_init : ByteArray := prog_6_method_1_code
def yX4_init : MethodName := ⟨RX4, "<init>", "()V"⟩
abbrev cX4_add : ByteArray := prog_6_method_2_code
def yX4_add : MethodName := ⟨RX4, "add", "(I)I"⟩
abbrev cX4_room : ByteArray := prog_6_method_3_code
def yX4_room : MethodName := ⟨RX4, "room", "(I)I"⟩
abbrev cX4_lay : ByteArray := prog_6_method_4_code
def yX4_lay : MethodName := ⟨RX4, "lay", "(LBooksMoved$Books;I)V"⟩
abbrev cX4_clear : ByteArray := prog_6_method_5_code
def yX4_clear : MethodName := ⟨RX4, "clear", "()V"⟩
abbrev cX4_put : ByteArray := prog_6_method_6_code
def yX4_put : MethodName := ⟨RX4, "put", "(III)V"⟩
def RX5 : String := "BooksMoved$Tape"
def TX5 : u_T := fun k => match k with
  | 0 => ("BooksMoved$Tape", "bytes", "[I", true)
  | _ => ("BooksMoved$Tape", "count", "I", false)
def tyX5 : Nat → FieldType := fun k => match k with
  | 0 => .array .int
  | _ => .int
abbrev wsX50 : List Cond := u_ws RX5 TX5 2
theorem nmX5 : ∀ a, a < 2 → ∀ b, b < 2 → a ≠ b → (TX5 a).2.1 ≠ (TX5 b).2.1 := by decide +kernel
theorem tyX5_ok : ∀ k, k < 2 → parseFieldDescriptor (TX5 k).2.2.1 = some (tyX5 k) := by decide +kernel
abbrev cX5_init : ByteArray := prog_7_method_1_code
def yX5_init : MethodName := ⟨RX5, "<init>", "()V"⟩
abbrev cX5_append : ByteArray := prog_7_method_2_code
def yX5_append : MethodName := ⟨RX5, "append", "(I)V"⟩
abbrev cX5_byteAt : ByteArray := prog_7_method_3_code
def yX5_byteAt : MethodName := ⟨RX5, "byteAt", "(I)I"⟩
abbrev cX5_digitAt : ByteArray := prog_7_method_4_code
def yX5_digitAt : MethodName := ⟨RX5, "digitAt", "(I)Z"⟩
abbrev cX5_letterAt : ByteArray := prog_7_method_5_code
def yX5_letterAt : MethodName := ⟨RX5, "letterAt", "(I)Z"⟩
def RX6 : String := "BooksMoved"
def TX6 : u_T := fun k => match k with
  | 0 => ("BooksMoved", "tape", "LBooksMoved$Tape;", true)
  | 1 => ("BooksMoved", "mark", "LBooksMoved$Mark;", true)
  | 2 => ("BooksMoved", "books", "LBooksMoved$Books;", true)
  | 3 => ("BooksMoved", "shelves", "LBooksMoved$Shelves;", true)
  | 4 => ("BooksMoved", "crates", "LBooksMoved$Crates;", true)
  | 5 => ("BooksMoved", "standing", "LBooksMoved$Row;", true)
  | 6 => ("BooksMoved", "theRule", "I", false)
  | 7 => ("BooksMoved", "plansHold", "Z", false)
  | _ => ("BooksMoved", "outsHold", "Z", false)
def tyX6 : Nat → FieldType := fun k => match k with
  | 0 => .object "BooksMoved$Tape"
  | 1 => .object "BooksMoved$Mark"
  | 2 => .object "BooksMoved$Books"
  | 3 => .object "BooksMoved$Shelves"
  | 4 => .object "BooksMoved$Crates"
  | 5 => .object "BooksMoved$Row"
  | 6 => .int
  | 7 => .boolean
  | _ => .boolean
abbrev wsX60 : List Cond := u_ws RX6 TX6 9
theorem nmX6 : ∀ a, a < 9 → ∀ b, b < 9 → a ≠ b → (TX6 a).2.1 ≠ (TX6 b).2.1 := by decide +kernel
theorem tyX6_ok : ∀ k, k < 9 → parseFieldDescriptor (TX6 k).2.2.1 = some (tyX6 k) := by decide +kernel
abbrev cX6_init : ByteArray := prog_1_method_1_code
def yX6_init : MethodName := ⟨RX6, "<init>", "()V"⟩
abbrev cX6_feed : ByteArray := prog_1_method_2_code
def yX6_feed : MethodName := ⟨RX6, "feed", "(IIIII)I"⟩
abbrev cX6_end : ByteArray := prog_1_method_3_code
def yX6_end : MethodName := ⟨RX6, "end", "(I)I"⟩
abbrev cX6_book : ByteArray := prog_1_method_4_code
def yX6_book : MethodName := ⟨RX6, "book", "(III)I"⟩
abbrev cX6_wrong : ByteArray := prog_1_method_5_code
def yX6_wrong : MethodName := ⟨RX6, "wrong", "()I"⟩
abbrev cX6_rule : ByteArray := prog_1_method_6_code
def yX6_rule : MethodName := ⟨RX6, "rule", "(I)Z"⟩
abbrev cX6_compare : ByteArray := prog_1_method_7_code
def yX6_compare : MethodName := ⟨RX6, "compare", "(III)I"⟩
abbrev cX6_ordered : ByteArray := prog_1_method_8_code
def yX6_ordered : MethodName := ⟨RX6, "ordered", "(II)I"⟩
abbrev cX6_quarrels : ByteArray := prog_1_method_9_code
def yX6_quarrels : MethodName := ⟨RX6, "quarrels", "()I"⟩
abbrev cX6_shelf : ByteArray := prog_1_method_10_code
def yX6_shelf : MethodName := ⟨RX6, "shelf", "(I)I"⟩
abbrev cX6_sizes : ByteArray := prog_1_method_11_code
def yX6_sizes : MethodName := ⟨RX6, "sizes", "(II)Z"⟩
abbrev cX6_laid : ByteArray := prog_1_method_12_code
def yX6_laid : MethodName := ⟨RX6, "laid", "(II)I"⟩
abbrev cX6_shelfOf : ByteArray := prog_1_method_13_code
def yX6_shelfOf : MethodName := ⟨RX6, "shelfOf", "(II)I"⟩
abbrev cX6_counts : ByteArray := prog_1_method_14_code
def yX6_counts : MethodName := ⟨RX6, "counts", "(I)I"⟩
abbrev cX6_way : ByteArray := prog_1_method_15_code
def yX6_way : MethodName := ⟨RX6, "way", "(II)Z"⟩
abbrev cX6_crate : ByteArray := prog_1_method_16_code
def yX6_crate : MethodName := ⟨RX6, "crate", "(II)I"⟩
abbrev cX6_meeting : ByteArray := prog_1_method_17_code
def yX6_meeting : MethodName := ⟨RX6, "meeting", "(I)I"⟩
abbrev cX6_where : ByteArray := prog_1_method_18_code
def yX6_where : MethodName := ⟨RX6, "where", "(III)I"⟩
abbrev cX6_row : ByteArray := prog_1_method_19_code
def yX6_row : MethodName := ⟨RX6, "row", "()I"⟩
abbrev cX6_at : ByteArray := prog_1_method_20_code
def yX6_at : MethodName := ⟨RX6, "at", "(I)I"⟩
abbrev cX6_misplace : ByteArray := prog_1_method_21_code
def yX6_misplace : MethodName := ⟨RX6, "misplace", "(II)Z"⟩
abbrev cX6_takenOut : ByteArray := prog_1_method_22_code
def yX6_takenOut : MethodName := ⟨RX6, "takenOut", "()I"⟩
abbrev cX6_isOut : ByteArray := prog_1_method_23_code
def yX6_isOut : MethodName := ⟨RX6, "isOut", "(I)I"⟩
abbrev cX6_drawn : ByteArray := prog_1_method_24_code
def yX6_drawn : MethodName := ⟨RX6, "drawn", "(III)I"⟩
abbrev cX6_about : ByteArray := prog_1_method_25_code
def yX6_about : MethodName := ⟨RX6, "about", "(I)I"⟩
abbrev cX6_within : ByteArray := prog_1_method_26_code
def yX6_within : MethodName := ⟨RX6, "within", "(III)Z"⟩
abbrev cX6_isRule : ByteArray := prog_1_method_27_code
def yX6_isRule : MethodName := ⟨RX6, "isRule", "(I)Z"⟩
abbrev cX6_forgetWhatFollows : ByteArray := prog_1_method_28_code
def yX6_forgetWhatFollows : MethodName := ⟨RX6, "forgetWhatFollows", "()V"⟩
abbrev cX6_makePlans : ByteArray := prog_1_method_29_code
def yX6_makePlans : MethodName := ⟨RX6, "makePlans", "()V"⟩
abbrev cX6_lookThrough : ByteArray := prog_1_method_30_code
def yX6_lookThrough : MethodName := ⟨RX6, "lookThrough", "()V"⟩
def RX7 : String := "BooksMovedModel"
def TX7 : u_T := fun k => match k with
  | 0 => ("BooksMovedModel", "books", "I", false)
  | 1 => ("BooksMovedModel", "rule", "I", false)
  | 2 => ("BooksMovedModel", "limit", "I", false)
  | 3 => ("BooksMovedModel", "holds", "I", false)
  | 4 => ("BooksMovedModel", "number", "[I", true)
  | 5 => ("BooksMovedModel", "behind", "[I", true)
  | 6 => ("BooksMovedModel", "digits", "[I", true)
  | 7 => ("BooksMovedModel", "letters", "[I", true)
  | 8 => ("BooksMovedModel", "house", "[I", true)
  | 9 => ("BooksMovedModel", "thick", "[I", true)
  | 10 => ("BooksMovedModel", "tall", "[I", true)
  | 11 => ("BooksMovedModel", "shelves", "I", false)
  | 12 => ("BooksMovedModel", "longs", "[I", true)
  | 13 => ("BooksMovedModel", "growth", "[I", true)
  | 14 => ("BooksMovedModel", "way", "[I", true)
  | 15 => ("BooksMovedModel", "tape", "[I", true)
  | 16 => ("BooksMovedModel", "taped", "I", false)
  | 17 => ("BooksMovedModel", "wrongAt", "I", false)
  | 18 => ("BooksMovedModel", "at", "I", false)
  | 19 => ("BooksMovedModel", "order", "[I", true)
  | 20 => ("BooksMovedModel", "shelfOf", "[I", true)
  | 21 => ("BooksMovedModel", "placeOn", "[I", true)
  | 22 => ("BooksMovedModel", "has", "[I", true)
  | 23 => ("BooksMovedModel", "needs", "[I", true)
  | 24 => ("BooksMovedModel", "outsize", "I", false)
  | 25 => ("BooksMovedModel", "notLaid", "I", false)
  | 26 => ("BooksMovedModel", "crates", "I", false)
  | 27 => ("BooksMovedModel", "meets", "I", false)
  | 28 => ("BooksMovedModel", "meetsAt", "I", false)
  | 29 => ("BooksMovedModel", "firstOf", "[I", true)
  | 30 => ("BooksMovedModel", "many", "[I", true)
  | 31 => ("BooksMovedModel", "crateHouse", "[I", true)
  | 32 => ("BooksMovedModel", "begins", "[I", true)
  | 33 => ("BooksMovedModel", "ends", "[I", true)
  | 34 => ("BooksMovedModel", "crateOf", "[I", true)
  | 35 => ("BooksMovedModel", "rowLong", "I", false)
  | 36 => ("BooksMovedModel", "row", "[I", true)
  | 37 => ("BooksMovedModel", "stays", "[I", true)
  | 38 => ("BooksMovedModel", "isOut", "[Z", true)
  | _ => ("BooksMovedModel", "lot", "[I", true)
def tyX7 : Nat → FieldType := fun k => match k with
  | 0 => .int
  | 1 => .int
  | 2 => .int
  | 3 => .int
  | 4 => .array .int
  | 5 => .array .int
  | 6 => .array .int
  | 7 => .array .int
  | 8 => .array .int
  | 9 => .array .int
  | 10 => .array .int
  | 11 => .int
  | 12 => .array .int
  | 13 => .array .int
  | 14 => .array .int
  | 15 => .array .int
  | 16 => .int
  | 17 => .int
  | 18 => .int
  | 19 => .array .int
  | 20 => .array .int
  | 21 => .array .int
  | 22 => .array .int
  | 23 => .array .int
  | 24 => .int
  | 25 => .int
  | 26 => .int
  | 27 => .int
  | 28 => .int
  | 29 => .array .int
  | 30 => .array .int
  | 31 => .array .int
  | 32 => .array .int
  | 33 => .array .int
  | 34 => .array .int
  | 35 => .int
  | 36 => .array .int
  | 37 => .array .int
  | 38 => .array .boolean
  | _ => .array .int
abbrev wsX70 : List Cond := u_ws RX7 TX7 40
theorem nmX7 : ∀ a, a < 40 → ∀ b, b < 40 → a ≠ b → (TX7 a).2.1 ≠ (TX7 b).2.1 := by decide +kernel
theorem tyX7_ok : ∀ k, k < 40 → parseFieldDescriptor (TX7 k).2.2.1 = some (tyX7 k) := by decide +kernel
abbrev cX7_init : ByteArray := prog_9_method_1_code
def yX7_init : MethodName := ⟨RX7, "<init>", "()V"⟩
abbrev cX7_isIn : ByteArray := prog_9_method_2_code
def yX7_isIn : MethodName := ⟨RX7, "isIn", "(III)Z"⟩
abbrev cX7_isBook : ByteArray := prog_9_method_3_code
def yX7_isBook : MethodName := ⟨RX7, "isBook", "(I)Z"⟩
abbrev cX7_four : ByteArray := prog_9_method_4_code
def yX7_four : MethodName := ⟨RX7, "four", "(I)V"⟩
abbrev cX7_feed : ByteArray := prog_9_method_5_code
def yX7_feed : MethodName := ⟨RX7, "feed", "(IIIII)I"⟩
abbrev cX7_end : ByteArray := prog_9_method_6_code
def yX7_end : MethodName := ⟨RX7, "end", "(I)I"⟩
abbrev cX7_see : ByteArray := prog_9_method_7_code
def yX7_see : MethodName := ⟨RX7, "see", "(I)I"⟩
abbrev cX7_digitsHere : ByteArray := prog_9_method_8_code
def yX7_digitsHere : MethodName := ⟨RX7, "digitsHere", "()I"⟩
abbrev cX7_isMark : ByteArray := prog_9_method_9_code
def yX7_isMark : MethodName := ⟨RX7, "isMark", "(I)Z"⟩
abbrev cX7_book : ByteArray := prog_9_method_10_code
def yX7_book : MethodName := ⟨RX7, "book", "(III)I"⟩
abbrev cX7_wrong : ByteArray := prog_9_method_11_code
def yX7_wrong : MethodName := ⟨RX7, "wrong", "()I"⟩
abbrev cX7_rule : ByteArray := prog_9_method_12_code
def yX7_rule : MethodName := ⟨RX7, "rule", "(I)Z"⟩
abbrev cX7_keyOf : ByteArray := prog_9_method_13_code
def yX7_keyOf : MethodName := ⟨RX7, "keyOf", "(II)I"⟩
abbrev cX7_sign : ByteArray := prog_9_method_14_code
def yX7_sign : MethodName := ⟨RX7, "sign", "(II)I"⟩
abbrev cX7_against : ByteArray := prog_9_method_15_code
def yX7_against : MethodName := ⟨RX7, "against", "(III)I"⟩
abbrev cX7_compare : ByteArray := prog_9_method_16_code
def yX7_compare : MethodName := ⟨RX7, "compare", "(III)I"⟩
abbrev cX7_sort : ByteArray := prog_9_method_17_code
def yX7_sort : MethodName := ⟨RX7, "sort", "(I)V"⟩
abbrev cX7_ordered : ByteArray := prog_9_method_18_code
def yX7_ordered : MethodName := ⟨RX7, "ordered", "(II)I"⟩
abbrev cX7_quarrels : ByteArray := prog_9_method_19_code
def yX7_quarrels : MethodName := ⟨RX7, "quarrels", "()I"⟩
abbrev cX7_shelf : ByteArray := prog_9_method_20_code
def yX7_shelf : MethodName := ⟨RX7, "shelf", "(I)I"⟩
abbrev cX7_sizes : ByteArray := prog_9_method_21_code
def yX7_sizes : MethodName := ⟨RX7, "sizes", "(II)Z"⟩
abbrev cX7_lay : ByteArray := prog_9_method_22_code
def yX7_lay : MethodName := ⟨RX7, "lay", "()V"⟩
abbrev cX7_laid : ByteArray := prog_9_method_23_code
def yX7_laid : MethodName := ⟨RX7, "laid", "(II)I"⟩
abbrev cX7_shelfOf : ByteArray := prog_9_method_24_code
def yX7_shelfOf : MethodName := ⟨RX7, "shelfOf", "(II)I"⟩
abbrev cX7_counts : ByteArray := prog_9_method_25_code
def yX7_counts : MethodName := ⟨RX7, "counts", "(I)I"⟩
abbrev cX7_pack : ByteArray := prog_9_method_26_code
def yX7_pack : MethodName := ⟨RX7, "pack", "()V"⟩
abbrev cX7_meet : ByteArray := prog_9_method_27_code
def yX7_meet : MethodName := ⟨RX7, "meet", "()V"⟩
abbrev cX7_way : ByteArray := prog_9_method_28_code
def yX7_way : MethodName := ⟨RX7, "way", "(II)Z"⟩
abbrev cX7_crate : ByteArray := prog_9_method_29_code
def yX7_crate : MethodName := ⟨RX7, "crate", "(II)I"⟩
abbrev cX7_meeting : ByteArray := prog_9_method_30_code
def yX7_meeting : MethodName := ⟨RX7, "meeting", "(I)I"⟩
abbrev cX7_where : ByteArray := prog_9_method_31_code
def yX7_where : MethodName := ⟨RX7, "where", "(III)I"⟩
abbrev cX7_row : ByteArray := prog_9_method_32_code
def yX7_row : MethodName := ⟨RX7, "row", "()I"⟩
abbrev cX7_at : ByteArray := prog_9_method_33_code
def yX7_at : MethodName := ⟨RX7, "at", "(I)I"⟩
abbrev cX7_misplace : ByteArray := prog_9_method_34_code
def yX7_misplace : MethodName := ⟨RX7, "misplace", "(II)Z"⟩
abbrev cX7_takeOut : ByteArray := prog_9_method_35_code
def yX7_takeOut : MethodName := ⟨RX7, "takeOut", "()I"⟩
abbrev cX7_takenOut : ByteArray := prog_9_method_36_code
def yX7_takenOut : MethodName := ⟨RX7, "takenOut", "()I"⟩
abbrev cX7_isOut : ByteArray := prog_9_method_37_code
def yX7_isOut : MethodName := ⟨RX7, "isOut", "(I)I"⟩
abbrev cX7_drawn : ByteArray := prog_9_method_38_code
def yX7_drawn : MethodName := ⟨RX7, "drawn", "(III)I"⟩
abbrev cX7_about : ByteArray := prog_9_method_39_code
def yX7_about : MethodName := ⟨RX7, "about", "(I)I"⟩
def RJ9 : String := "java/lang/Math"
def TJ9 : u_T := fun k => match k with
  | _ => ("", "", "", false)
def tyJ9 : Nat → FieldType := fun k => match k with
  | _ => .int
abbrev cJ9_max_7cf53 : ByteArray := prog_10_method_65_code
def yJ9_max_7cf53 : MethodName := ⟨RJ9, "max", "(II)I"⟩
def RL : String := "BooksMovedLaw"
abbrev cL_law : ByteArray := code
def yL_law : MethodName := ⟨RL, "law", "([I)Z"⟩
abbrev vwCl : List vw_C := [(RX0, TX0, 8), (RX1, TX1, 11), (RX2, TX2, 6), (RX3, TX3, 6), (RX4, TX4, 10), (RX5, TX5, 2), (RX6, TX6, 9), (RX7, TX7, 40)]
