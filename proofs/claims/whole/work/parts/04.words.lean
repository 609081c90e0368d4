/-- the words of the tables that a callee may rest on too -/
def WL : List Cond := lw_tbl.filter goodWord
theorem WL_sub : ∀ w ∈ WL, w ∈ lw_tbl := fun _ h => (List.mem_filter.mp h).1
theorem WL_in {w : Cond} (h : w ∈ lw_tbl) (g : goodWord w = true) : w ∈ WL := List.mem_filter.mpr ⟨h, g⟩
theorem WL_good : ∀ w ∈ WL, goodWord w = true := fun _ h => (List.mem_filter.mp h).2
theorem tm0 {w : Cond} (h : w ∈ k2_sels lw_privs) : w ∈ lw_tbl := List.mem_append_left _ h
theorem tmt {w : Cond} (h : w ∈ tables_1) : w ∈ lw_tbl := List.mem_append_right _ h
theorem tm1 {w : Cond} (h : w ∈ tables_1_1) : w ∈ lw_tbl := tmt (List.mem_append_left _ h)
theorem tm2 {w : Cond} (h : w ∈ tables_1_2) : w ∈ lw_tbl := tmt (List.mem_append_right _ (List.mem_append_left _ h))
theorem tm3 {w : Cond} (h : w ∈ tables_1_3) : w ∈ lw_tbl := tmt (List.mem_append_right _ (List.mem_append_right _ (List.mem_append_left _ h)))
theorem tm4 {w : Cond} (h : w ∈ tables_1_4) : w ∈ lw_tbl := tmt (List.mem_append_right _ (List.mem_append_right _ (List.mem_append_right _ h)))
theorem wk1_0 : Jvm.Cond.initialized "BooksMovedLaw" ∈ WL := WL_in (tm1 (List.mem_of_getElem? (i := 0) (by decide +kernel))) rfl
theorem wk1_1 : Jvm.Cond.initialized "BooksMoved" ∈ WL := WL_in (tm1 (List.mem_of_getElem? (i := 1) (by decide +kernel))) rfl
theorem wk1_2 : Jvm.Cond.initialized "BooksMoved$Tape" ∈ WL := WL_in (tm1 (List.mem_of_getElem? (i := 2) (by decide +kernel))) rfl
theorem wk1_3 : Jvm.Cond.initialized "BooksMoved$Mark" ∈ WL := WL_in (tm1 (List.mem_of_getElem? (i := 3) (by decide +kernel))) rfl
theorem wk1_4 : Jvm.Cond.initialized "BooksMoved$Books" ∈ WL := WL_in (tm1 (List.mem_of_getElem? (i := 4) (by decide +kernel))) rfl
theorem wk1_5 : Jvm.Cond.initialized "BooksMoved$Shelves" ∈ WL := WL_in (tm1 (List.mem_of_getElem? (i := 5) (by decide +kernel))) rfl
theorem wk1_6 : Jvm.Cond.initialized "BooksMoved$Crates" ∈ WL := WL_in (tm1 (List.mem_of_getElem? (i := 6) (by decide +kernel))) rfl
theorem wk1_7 : Jvm.Cond.initialized "BooksMoved$Row" ∈ WL := WL_in (tm1 (List.mem_of_getElem? (i := 7) (by decide +kernel))) rfl
theorem wk1_8 : Jvm.Cond.initialized "BooksMovedModel" ∈ WL := WL_in (tm1 (List.mem_of_getElem? (i := 8) (by decide +kernel))) rfl
theorem wk1_9 : Jvm.Cond.initialized "java/lang/Math" ∈ WL := WL_in (tm1 (List.mem_of_getElem? (i := 9) (by decide +kernel))) rfl
theorem wk1_10 : Jvm.Cond.classLink "BooksMovedLaw" (7 : Nat) "BooksMoved" ∈ WL := WL_in (tm1 (List.mem_of_getElem? (i := 10) (by decide +kernel))) rfl
theorem wk1_11 : Jvm.Cond.instantiable "BooksMoved" (9 : Nat) ∈ WL := WL_in (tm1 (List.mem_of_getElem? (i := 11) (by decide +kernel))) rfl
theorem wk1_12 : Jvm.Cond.methodLink "BooksMovedLaw" (9 : Nat) ({ cls := "BooksMoved", name := "<init>", desc := "()V" } : Jvm.MethodName) ∈ WL := WL_in (tm1 (List.mem_of_getElem? (i := 12) (by decide +kernel))) rfl
theorem wk1_13 : Jvm.Cond.instanceMethod ({ cls := "BooksMoved", name := "<init>", desc := "()V" } : Jvm.MethodName) ∈ WL := WL_in (tm1 (List.mem_of_getElem? (i := 13) (by decide +kernel))) rfl
theorem wk1_14 : Jvm.Cond.code ({ cls := "BooksMoved", name := "<init>", desc := "()V" } : Jvm.MethodName) prog_1_method_1_code (1 : Nat) (Option.none : Option Jvm.ClassFile.FieldType) ∈ WL := WL_in (tm1 (List.mem_of_getElem? (i := 14) rfl)) rfl
theorem wk1_15 : Jvm.Cond.methodLink "BooksMoved" (1 : Nat) ({ cls := "java/lang/Object", name := "<init>", desc := "()V" } : Jvm.MethodName) ∈ WL := WL_in (tm1 (List.mem_of_getElem? (i := 15) (by decide +kernel))) rfl
theorem wk1_16 : Jvm.Cond.instanceMethod ({ cls := "java/lang/Object", name := "<init>", desc := "()V" } : Jvm.MethodName) ∈ WL := WL_in (tm1 (List.mem_of_getElem? (i := 16) (by decide +kernel))) rfl
theorem wk1_17 : Jvm.Cond.code ({ cls := "java/lang/Object", name := "<init>", desc := "()V" } : Jvm.MethodName) object_method_1_code (1 : Nat) (Option.none : Option Jvm.ClassFile.FieldType) ∈ WL := WL_in (tm1 (List.mem_of_getElem? (i := 17) rfl)) rfl
theorem wk1_18 : Jvm.Cond.classLink "BooksMoved" (7 : Nat) "BooksMoved$Tape" ∈ WL := WL_in (tm1 (List.mem_of_getElem? (i := 18) (by decide +kernel))) rfl
theorem wk1_19 : Jvm.Cond.instantiable "BooksMoved$Tape" (2 : Nat) ∈ WL := WL_in (tm1 (List.mem_of_getElem? (i := 19) (by decide +kernel))) rfl
theorem wk1_21 : Jvm.Cond.instanceMethod ({ cls := "BooksMoved$Tape", name := "<init>", desc := "()V" } : Jvm.MethodName) ∈ WL := WL_in (tm1 (List.mem_of_getElem? (i := 21) (by decide +kernel))) rfl
theorem wk1_22 : Jvm.Cond.code ({ cls := "BooksMoved$Tape", name := "<init>", desc := "()V" } : Jvm.MethodName) prog_7_method_1_code (1 : Nat) (Option.none : Option Jvm.ClassFile.FieldType) ∈ WL := WL_in (tm1 (List.mem_of_getElem? (i := 22) rfl)) rfl
theorem wk1_23 : Jvm.Cond.methodLink "BooksMoved$Tape" (3 : Nat) ({ cls := "java/lang/Object", name := "<init>", desc := "()V" } : Jvm.MethodName) ∈ WL := WL_in (tm1 (List.mem_of_getElem? (i := 23) (by decide +kernel))) rfl
theorem wk1_24 : Jvm.Cond.fieldLink "BooksMoved$Tape" (9 : Nat) "BooksMoved$Tape" "bytes" "[I" ∈ WL := WL_in (tm1 (List.mem_of_getElem? (i := 24) (by decide +kernel))) rfl
theorem wk1_25 : Jvm.Cond.fieldLink "BooksMoved$Tape" (15 : Nat) "BooksMoved$Tape" "count" "I" ∈ WL := WL_in (tm1 (List.mem_of_getElem? (i := 25) (by decide +kernel))) rfl
theorem wk1_26 : Jvm.Cond.fieldLink "BooksMoved" (62 : Nat) "BooksMoved$Tape" "count" "I" ∈ WL := WL_in (tm1 (List.mem_of_getElem? (i := 26) (by decide +kernel))) rfl
theorem wk1_27 : Jvm.Cond.fieldLink "BooksMoved$Mark" (51 : Nat) "BooksMoved$Tape" "count" "I" ∈ WL := WL_in (tm1 (List.mem_of_getElem? (i := 27) (by decide +kernel))) rfl
theorem wk1_33 : Jvm.Cond.arrayClass Jvm.ClassFile.FieldType.int ∈ WL := WL_in (tm1 (List.mem_of_getElem? (i := 33) (by decide +kernel))) rfl
theorem wk1_34 : Jvm.Cond.classLink "BooksMoved" (16 : Nat) "BooksMoved$Mark" ∈ WL := WL_in (tm1 (List.mem_of_getElem? (i := 34) (by decide +kernel))) rfl
theorem wk1_35 : Jvm.Cond.instantiable "BooksMoved$Mark" (6 : Nat) ∈ WL := WL_in (tm1 (List.mem_of_getElem? (i := 35) (by decide +kernel))) rfl
theorem wk1_37 : Jvm.Cond.instanceMethod ({ cls := "BooksMoved$Mark", name := "<init>", desc := "()V" } : Jvm.MethodName) ∈ WL := WL_in (tm1 (List.mem_of_getElem? (i := 37) (by decide +kernel))) rfl
theorem wk1_38 : Jvm.Cond.code ({ cls := "BooksMoved$Mark", name := "<init>", desc := "()V" } : Jvm.MethodName) prog_4_method_1_code (1 : Nat) (Option.none : Option Jvm.ClassFile.FieldType) ∈ WL := WL_in (tm1 (List.mem_of_getElem? (i := 38) rfl)) rfl
theorem wk1_39 : Jvm.Cond.methodLink "BooksMoved$Mark" (3 : Nat) ({ cls := "java/lang/Object", name := "<init>", desc := "()V" } : Jvm.MethodName) ∈ WL := WL_in (tm1 (List.mem_of_getElem? (i := 39) (by decide +kernel))) rfl
theorem wk1_40 : Jvm.Cond.fieldLink "BooksMoved$Mark" (9 : Nat) "BooksMoved$Mark" "wrongAt" "I" ∈ WL := WL_in (tm1 (List.mem_of_getElem? (i := 40) (by decide +kernel))) rfl
theorem wk1_41 : Jvm.Cond.fieldLink "BooksMoved" (78 : Nat) "BooksMoved$Mark" "wrongAt" "I" ∈ WL := WL_in (tm1 (List.mem_of_getElem? (i := 41) (by decide +kernel))) rfl
theorem wk1_42 : Jvm.Cond.fieldLink "BooksMoved$Mark" (32 : Nat) "BooksMoved$Mark" "number" "I" ∈ WL := WL_in (tm1 (List.mem_of_getElem? (i := 42) (by decide +kernel))) rfl
theorem wk1_43 : Jvm.Cond.fieldLink "BooksMoved$Books" (45 : Nat) "BooksMoved$Mark" "number" "I" ∈ WL := WL_in (tm1 (List.mem_of_getElem? (i := 43) (by decide +kernel))) rfl
theorem wk1_44 : Jvm.Cond.fieldLink "BooksMoved$Mark" (15 : Nat) "BooksMoved$Mark" "behind" "I" ∈ WL := WL_in (tm1 (List.mem_of_getElem? (i := 44) (by decide +kernel))) rfl
theorem wk1_45 : Jvm.Cond.fieldLink "BooksMoved$Mark" (18 : Nat) "BooksMoved$Mark" "behindDigits" "I" ∈ WL := WL_in (tm1 (List.mem_of_getElem? (i := 45) (by decide +kernel))) rfl
theorem wk1_46 : Jvm.Cond.fieldLink "BooksMoved$Mark" (21 : Nat) "BooksMoved$Mark" "behindFromLeft" "I" ∈ WL := WL_in (tm1 (List.mem_of_getElem? (i := 46) (by decide +kernel))) rfl
theorem wk1_47 : Jvm.Cond.fieldLink "BooksMoved$Mark" (58 : Nat) "BooksMoved$Mark" "letters" "I" ∈ WL := WL_in (tm1 (List.mem_of_getElem? (i := 47) (by decide +kernel))) rfl
theorem wk1_61 : Jvm.Cond.classLink "BooksMoved" (23 : Nat) "BooksMoved$Books" ∈ WL := WL_in (tm1 (List.mem_of_getElem? (i := 61) (by decide +kernel))) rfl
theorem wk1_62 : Jvm.Cond.instantiable "BooksMoved$Books" (8 : Nat) ∈ WL := WL_in (tm1 (List.mem_of_getElem? (i := 62) (by decide +kernel))) rfl
theorem wk1_64 : Jvm.Cond.instanceMethod ({ cls := "BooksMoved$Books", name := "<init>", desc := "()V" } : Jvm.MethodName) ∈ WL := WL_in (tm1 (List.mem_of_getElem? (i := 64) (by decide +kernel))) rfl
theorem wk1_65 : Jvm.Cond.code ({ cls := "BooksMoved$Books", name := "<init>", desc := "()V" } : Jvm.MethodName) prog_2_method_1_code (1 : Nat) (Option.none : Option Jvm.ClassFile.FieldType) ∈ WL := WL_in (tm1 (List.mem_of_getElem? (i := 65) rfl)) rfl
theorem wk1_66 : Jvm.Cond.methodLink "BooksMoved$Books" (3 : Nat) ({ cls := "java/lang/Object", name := "<init>", desc := "()V" } : Jvm.MethodName) ∈ WL := WL_in (tm1 (List.mem_of_getElem? (i := 66) (by decide +kernel))) rfl
theorem wk1_67 : Jvm.Cond.classLink "BooksMoved$Books" (9 : Nat) "[[J" ∈ WL := WL_in (tm1 (List.mem_of_getElem? (i := 67) (by decide +kernel))) rfl
theorem wk1_69 : Jvm.Cond.classLink "BooksMoved$Books" (16 : Nat) "[[I" ∈ WL := WL_in (tm1 (List.mem_of_getElem? (i := 69) (by decide +kernel))) rfl
theorem wk1_71 : Jvm.Cond.fieldLink "BooksMoved$Books" (11 : Nat) "BooksMoved$Books" "key" "[[J" ∈ WL := WL_in (tm1 (List.mem_of_getElem? (i := 71) (by decide +kernel))) rfl
theorem wk1_72 : Jvm.Cond.fieldLink "BooksMoved$Books" (18 : Nat) "BooksMoved$Books" "order" "[[I" ∈ WL := WL_in (tm1 (List.mem_of_getElem? (i := 72) (by decide +kernel))) rfl
theorem wk1_73 : Jvm.Cond.fieldLink "BooksMoved$Crates" (49 : Nat) "BooksMoved$Books" "order" "[[I" ∈ WL := WL_in (tm1 (List.mem_of_getElem? (i := 73) (by decide +kernel))) rfl
theorem wk1_74 : Jvm.Cond.fieldLink "BooksMoved$Shelves" (49 : Nat) "BooksMoved$Books" "order" "[[I" ∈ WL := WL_in (tm1 (List.mem_of_getElem? (i := 74) (by decide +kernel))) rfl
theorem wk1_75 : Jvm.Cond.fieldLink "BooksMoved" (99 : Nat) "BooksMoved$Books" "order" "[[I" ∈ WL := WL_in (tm1 (List.mem_of_getElem? (i := 75) (by decide +kernel))) rfl
theorem wk1_76 : Jvm.Cond.fieldLink "BooksMoved$Books" (21 : Nat) "BooksMoved$Books" "house" "[I" ∈ WL := WL_in (tm1 (List.mem_of_getElem? (i := 76) (by decide +kernel))) rfl
theorem wk1_77 : Jvm.Cond.fieldLink "BooksMoved$Crates" (53 : Nat) "BooksMoved$Books" "house" "[I" ∈ WL := WL_in (tm1 (List.mem_of_getElem? (i := 77) (by decide +kernel))) rfl
theorem wk1_78 : Jvm.Cond.fieldLink "BooksMoved$Books" (25 : Nat) "BooksMoved$Books" "thick" "[I" ∈ WL := WL_in (tm1 (List.mem_of_getElem? (i := 78) (by decide +kernel))) rfl
theorem wk1_79 : Jvm.Cond.fieldLink "BooksMoved$Crates" (54 : Nat) "BooksMoved$Books" "thick" "[I" ∈ WL := WL_in (tm1 (List.mem_of_getElem? (i := 79) (by decide +kernel))) rfl
theorem wk1_80 : Jvm.Cond.fieldLink "BooksMoved$Shelves" (56 : Nat) "BooksMoved$Books" "thick" "[I" ∈ WL := WL_in (tm1 (List.mem_of_getElem? (i := 80) (by decide +kernel))) rfl
theorem wk1_81 : Jvm.Cond.fieldLink "BooksMoved$Books" (28 : Nat) "BooksMoved$Books" "tall" "[I" ∈ WL := WL_in (tm1 (List.mem_of_getElem? (i := 81) (by decide +kernel))) rfl
theorem wk1_82 : Jvm.Cond.fieldLink "BooksMoved$Shelves" (53 : Nat) "BooksMoved$Books" "tall" "[I" ∈ WL := WL_in (tm1 (List.mem_of_getElem? (i := 82) (by decide +kernel))) rfl
theorem wk1_83 : Jvm.Cond.fieldLink "BooksMoved$Books" (31 : Nat) "BooksMoved$Books" "thousand" "[I" ∈ WL := WL_in (tm1 (List.mem_of_getElem? (i := 83) (by decide +kernel))) rfl
theorem wk1_84 : Jvm.Cond.fieldLink "BooksMoved$Shelves" (59 : Nat) "BooksMoved$Books" "thousand" "[I" ∈ WL := WL_in (tm1 (List.mem_of_getElem? (i := 84) (by decide +kernel))) rfl
theorem wk1_85 : Jvm.Cond.fieldLink "BooksMoved$Books" (34 : Nat) "BooksMoved$Books" "count" "I" ∈ WL := WL_in (tm1 (List.mem_of_getElem? (i := 85) (by decide +kernel))) rfl
theorem wk1_86 : Jvm.Cond.fieldLink "BooksMoved$Crates" (46 : Nat) "BooksMoved$Books" "count" "I" ∈ WL := WL_in (tm1 (List.mem_of_getElem? (i := 86) (by decide +kernel))) rfl
theorem wk1_87 : Jvm.Cond.fieldLink "BooksMoved" (73 : Nat) "BooksMoved$Books" "count" "I" ∈ WL := WL_in (tm1 (List.mem_of_getElem? (i := 87) (by decide +kernel))) rfl
theorem wk1_88 : Jvm.Cond.fieldLink "BooksMoved$Shelves" (46 : Nat) "BooksMoved$Books" "count" "I" ∈ WL := WL_in (tm1 (List.mem_of_getElem? (i := 88) (by decide +kernel))) rfl
theorem wk1_89 : Jvm.Cond.fieldLink "BooksMoved$Books" (38 : Nat) "BooksMoved$Books" "quarrelling" "I" ∈ WL := WL_in (tm1 (List.mem_of_getElem? (i := 89) (by decide +kernel))) rfl
theorem wk1_90 : Jvm.Cond.fieldLink "BooksMoved" (103 : Nat) "BooksMoved$Books" "quarrelling" "I" ∈ WL := WL_in (tm1 (List.mem_of_getElem? (i := 90) (by decide +kernel))) rfl
theorem wk1_108 : Jvm.Cond.arrayClass Jvm.ClassFile.FieldType.long ∈ WL := WL_in (tm1 (List.mem_of_getElem? (i := 108) (by decide +kernel))) rfl
theorem wk1_109 : Jvm.Cond.classLink "BooksMoved" (30 : Nat) "BooksMoved$Shelves" ∈ WL := WL_in (tm1 (List.mem_of_getElem? (i := 109) (by decide +kernel))) rfl
theorem wk1_110 : Jvm.Cond.instantiable "BooksMoved$Shelves" (10 : Nat) ∈ WL := WL_in (tm1 (List.mem_of_getElem? (i := 110) (by decide +kernel))) rfl
theorem wk1_112 : Jvm.Cond.instanceMethod ({ cls := "BooksMoved$Shelves", name := "<init>", desc := "()V" } : Jvm.MethodName) ∈ WL := WL_in (tm1 (List.mem_of_getElem? (i := 112) (by decide +kernel))) rfl
theorem wk1_113 : Jvm.Cond.code ({ cls := "BooksMoved$Shelves", name := "<init>", desc := "()V" } : Jvm.MethodName) prog_6_method_1_code (1 : Nat) (Option.none : Option Jvm.ClassFile.FieldType) ∈ WL := WL_in (tm1 (List.mem_of_getElem? (i := 113) rfl)) rfl
theorem wk1_114 : Jvm.Cond.methodLink "BooksMoved$Shelves" (3 : Nat) ({ cls := "java/lang/Object", name := "<init>", desc := "()V" } : Jvm.MethodName) ∈ WL := WL_in (tm1 (List.mem_of_getElem? (i := 114) (by decide +kernel))) rfl
theorem wk1_115 : Jvm.Cond.fieldLink "BooksMoved$Shelves" (9 : Nat) "BooksMoved$Shelves" "length" "[I" ∈ WL := WL_in (tm1 (List.mem_of_getElem? (i := 115) (by decide +kernel))) rfl
theorem wk1_116 : Jvm.Cond.fieldLink "BooksMoved$Shelves" (15 : Nat) "BooksMoved$Shelves" "growth" "[I" ∈ WL := WL_in (tm1 (List.mem_of_getElem? (i := 116) (by decide +kernel))) rfl
theorem wk1_117 : Jvm.Cond.fieldLink "BooksMoved" (116 : Nat) "BooksMoved$Shelves" "growth" "[I" ∈ WL := WL_in (tm1 (List.mem_of_getElem? (i := 117) (by decide +kernel))) rfl
theorem wk1_118 : Jvm.Cond.fieldLink "BooksMoved$Shelves" (18 : Nat) "BooksMoved$Shelves" "booksOn" "[I" ∈ WL := WL_in (tm1 (List.mem_of_getElem? (i := 118) (by decide +kernel))) rfl
theorem wk1_119 : Jvm.Cond.fieldLink "BooksMoved" (129 : Nat) "BooksMoved$Shelves" "booksOn" "[I" ∈ WL := WL_in (tm1 (List.mem_of_getElem? (i := 119) (by decide +kernel))) rfl
theorem wk1_120 : Jvm.Cond.fieldLink "BooksMoved$Shelves" (21 : Nat) "BooksMoved$Shelves" "needed" "[I" ∈ WL := WL_in (tm1 (List.mem_of_getElem? (i := 120) (by decide +kernel))) rfl
theorem wk1_121 : Jvm.Cond.fieldLink "BooksMoved" (135 : Nat) "BooksMoved$Shelves" "needed" "[I" ∈ WL := WL_in (tm1 (List.mem_of_getElem? (i := 121) (by decide +kernel))) rfl
theorem wk1_122 : Jvm.Cond.fieldLink "BooksMoved$Shelves" (24 : Nat) "BooksMoved$Shelves" "shelfOfBook" "[I" ∈ WL := WL_in (tm1 (List.mem_of_getElem? (i := 122) (by decide +kernel))) rfl
theorem wk1_123 : Jvm.Cond.fieldLink "BooksMoved" (123 : Nat) "BooksMoved$Shelves" "shelfOfBook" "[I" ∈ WL := WL_in (tm1 (List.mem_of_getElem? (i := 123) (by decide +kernel))) rfl
theorem wk1_124 : Jvm.Cond.fieldLink "BooksMoved$Shelves" (27 : Nat) "BooksMoved$Shelves" "placeOfBook" "[I" ∈ WL := WL_in (tm1 (List.mem_of_getElem? (i := 124) (by decide +kernel))) rfl
theorem wk1_125 : Jvm.Cond.fieldLink "BooksMoved" (126 : Nat) "BooksMoved$Shelves" "placeOfBook" "[I" ∈ WL := WL_in (tm1 (List.mem_of_getElem? (i := 125) (by decide +kernel))) rfl
theorem wk1_126 : Jvm.Cond.fieldLink "BooksMoved$Shelves" (30 : Nat) "BooksMoved$Shelves" "count" "I" ∈ WL := WL_in (tm1 (List.mem_of_getElem? (i := 126) (by decide +kernel))) rfl
theorem wk1_127 : Jvm.Cond.fieldLink "BooksMoved" (106 : Nat) "BooksMoved$Shelves" "count" "I" ∈ WL := WL_in (tm1 (List.mem_of_getElem? (i := 127) (by decide +kernel))) rfl
theorem wk1_128 : Jvm.Cond.fieldLink "BooksMoved$Shelves" (34 : Nat) "BooksMoved$Shelves" "limit" "I" ∈ WL := WL_in (tm1 (List.mem_of_getElem? (i := 128) (by decide +kernel))) rfl
theorem wk1_129 : Jvm.Cond.fieldLink "BooksMoved" (110 : Nat) "BooksMoved$Shelves" "limit" "I" ∈ WL := WL_in (tm1 (List.mem_of_getElem? (i := 129) (by decide +kernel))) rfl
theorem wk1_130 : Jvm.Cond.fieldLink "BooksMoved$Shelves" (37 : Nat) "BooksMoved$Shelves" "outsize" "I" ∈ WL := WL_in (tm1 (List.mem_of_getElem? (i := 130) (by decide +kernel))) rfl
theorem wk1_131 : Jvm.Cond.fieldLink "BooksMoved" (138 : Nat) "BooksMoved$Shelves" "outsize" "I" ∈ WL := WL_in (tm1 (List.mem_of_getElem? (i := 131) (by decide +kernel))) rfl
theorem wk1_132 : Jvm.Cond.fieldLink "BooksMoved$Shelves" (40 : Nat) "BooksMoved$Shelves" "notLaid" "I" ∈ WL := WL_in (tm1 (List.mem_of_getElem? (i := 132) (by decide +kernel))) rfl
theorem wk1_133 : Jvm.Cond.fieldLink "BooksMoved" (141 : Nat) "BooksMoved$Shelves" "notLaid" "I" ∈ WL := WL_in (tm1 (List.mem_of_getElem? (i := 133) (by decide +kernel))) rfl
theorem wk1_155 : Jvm.Cond.classLink "BooksMoved" (37 : Nat) "BooksMoved$Crates" ∈ WL := WL_in (tm1 (List.mem_of_getElem? (i := 155) (by decide +kernel))) rfl
theorem wk1_156 : Jvm.Cond.instantiable "BooksMoved$Crates" (11 : Nat) ∈ WL := WL_in (tm1 (List.mem_of_getElem? (i := 156) (by decide +kernel))) rfl
theorem wk1_158 : Jvm.Cond.instanceMethod ({ cls := "BooksMoved$Crates", name := "<init>", desc := "()V" } : Jvm.MethodName) ∈ WL := WL_in (tm1 (List.mem_of_getElem? (i := 158) (by decide +kernel))) rfl
theorem wk1_159 : Jvm.Cond.code ({ cls := "BooksMoved$Crates", name := "<init>", desc := "()V" } : Jvm.MethodName) prog_3_method_1_code (1 : Nat) (Option.none : Option Jvm.ClassFile.FieldType) ∈ WL := WL_in (tm1 (List.mem_of_getElem? (i := 159) rfl)) rfl
theorem wk1_160 : Jvm.Cond.methodLink "BooksMoved$Crates" (3 : Nat) ({ cls := "java/lang/Object", name := "<init>", desc := "()V" } : Jvm.MethodName) ∈ WL := WL_in (tm1 (List.mem_of_getElem? (i := 160) (by decide +kernel))) rfl
theorem wk1_161 : Jvm.Cond.fieldLink "BooksMoved$Crates" (9 : Nat) "BooksMoved$Crates" "wayOfHouse" "[I" ∈ WL := WL_in (tm1 (List.mem_of_getElem? (i := 161) (by decide +kernel))) rfl
theorem wk1_162 : Jvm.Cond.fieldLink "BooksMoved" (145 : Nat) "BooksMoved$Crates" "wayOfHouse" "[I" ∈ WL := WL_in (tm1 (List.mem_of_getElem? (i := 162) (by decide +kernel))) rfl
theorem wk1_163 : Jvm.Cond.fieldLink "BooksMoved$Crates" (15 : Nat) "BooksMoved$Crates" "firstBook" "[I" ∈ WL := WL_in (tm1 (List.mem_of_getElem? (i := 163) (by decide +kernel))) rfl
theorem wk1_164 : Jvm.Cond.fieldLink "BooksMoved" (148 : Nat) "BooksMoved$Crates" "firstBook" "[I" ∈ WL := WL_in (tm1 (List.mem_of_getElem? (i := 164) (by decide +kernel))) rfl
theorem wk1_165 : Jvm.Cond.fieldLink "BooksMoved$Crates" (18 : Nat) "BooksMoved$Crates" "booksIn" "[I" ∈ WL := WL_in (tm1 (List.mem_of_getElem? (i := 165) (by decide +kernel))) rfl
theorem wk1_166 : Jvm.Cond.fieldLink "BooksMoved" (151 : Nat) "BooksMoved$Crates" "booksIn" "[I" ∈ WL := WL_in (tm1 (List.mem_of_getElem? (i := 166) (by decide +kernel))) rfl
theorem wk1_167 : Jvm.Cond.fieldLink "BooksMoved$Crates" (21 : Nat) "BooksMoved$Crates" "house" "[I" ∈ WL := WL_in (tm1 (List.mem_of_getElem? (i := 167) (by decide +kernel))) rfl
theorem wk1_168 : Jvm.Cond.fieldLink "BooksMoved" (154 : Nat) "BooksMoved$Crates" "house" "[I" ∈ WL := WL_in (tm1 (List.mem_of_getElem? (i := 168) (by decide +kernel))) rfl
theorem wk1_169 : Jvm.Cond.fieldLink "BooksMoved$Crates" (24 : Nat) "BooksMoved$Crates" "begins" "[I" ∈ WL := WL_in (tm1 (List.mem_of_getElem? (i := 169) (by decide +kernel))) rfl
theorem wk1_170 : Jvm.Cond.fieldLink "BooksMoved" (157 : Nat) "BooksMoved$Crates" "begins" "[I" ∈ WL := WL_in (tm1 (List.mem_of_getElem? (i := 170) (by decide +kernel))) rfl
theorem wk1_171 : Jvm.Cond.fieldLink "BooksMoved$Crates" (27 : Nat) "BooksMoved$Crates" "ends" "[I" ∈ WL := WL_in (tm1 (List.mem_of_getElem? (i := 171) (by decide +kernel))) rfl
theorem wk1_172 : Jvm.Cond.fieldLink "BooksMoved" (160 : Nat) "BooksMoved$Crates" "ends" "[I" ∈ WL := WL_in (tm1 (List.mem_of_getElem? (i := 172) (by decide +kernel))) rfl
theorem wk1_173 : Jvm.Cond.fieldLink "BooksMoved$Crates" (30 : Nat) "BooksMoved$Crates" "crateOfBook" "[I" ∈ WL := WL_in (tm1 (List.mem_of_getElem? (i := 173) (by decide +kernel))) rfl
theorem wk1_174 : Jvm.Cond.fieldLink "BooksMoved" (177 : Nat) "BooksMoved$Crates" "crateOfBook" "[I" ∈ WL := WL_in (tm1 (List.mem_of_getElem? (i := 174) (by decide +kernel))) rfl
theorem wk1_175 : Jvm.Cond.fieldLink "BooksMoved$Crates" (33 : Nat) "BooksMoved$Crates" "hold" "I" ∈ WL := WL_in (tm1 (List.mem_of_getElem? (i := 175) (by decide +kernel))) rfl
theorem wk1_176 : Jvm.Cond.fieldLink "BooksMoved" (113 : Nat) "BooksMoved$Crates" "hold" "I" ∈ WL := WL_in (tm1 (List.mem_of_getElem? (i := 176) (by decide +kernel))) rfl
theorem wk1_177 : Jvm.Cond.fieldLink "BooksMoved$Crates" (37 : Nat) "BooksMoved$Crates" "count" "I" ∈ WL := WL_in (tm1 (List.mem_of_getElem? (i := 177) (by decide +kernel))) rfl
theorem wk1_178 : Jvm.Cond.fieldLink "BooksMoved" (144 : Nat) "BooksMoved$Crates" "count" "I" ∈ WL := WL_in (tm1 (List.mem_of_getElem? (i := 178) (by decide +kernel))) rfl
theorem wk1_179 : Jvm.Cond.fieldLink "BooksMoved$Crates" (40 : Nat) "BooksMoved$Crates" "ofFirstTeam" "I" ∈ WL := WL_in (tm1 (List.mem_of_getElem? (i := 179) (by decide +kernel))) rfl
theorem wk1_180 : Jvm.Cond.fieldLink "BooksMoved" (163 : Nat) "BooksMoved$Crates" "ofFirstTeam" "I" ∈ WL := WL_in (tm1 (List.mem_of_getElem? (i := 180) (by decide +kernel))) rfl
theorem wk1_181 : Jvm.Cond.fieldLink "BooksMoved$Crates" (43 : Nat) "BooksMoved$Crates" "bothEnded" "I" ∈ WL := WL_in (tm1 (List.mem_of_getElem? (i := 181) (by decide +kernel))) rfl
theorem wk1_182 : Jvm.Cond.fieldLink "BooksMoved" (166 : Nat) "BooksMoved$Crates" "bothEnded" "I" ∈ WL := WL_in (tm1 (List.mem_of_getElem? (i := 182) (by decide +kernel))) rfl
theorem wk1_206 : Jvm.Cond.classLink "BooksMoved" (44 : Nat) "BooksMoved$Row" ∈ WL := WL_in (tm1 (List.mem_of_getElem? (i := 206) (by decide +kernel))) rfl
theorem wk1_207 : Jvm.Cond.instantiable "BooksMoved$Row" (6 : Nat) ∈ WL := WL_in (tm1 (List.mem_of_getElem? (i := 207) (by decide +kernel))) rfl
theorem wk1_209 : Jvm.Cond.instanceMethod ({ cls := "BooksMoved$Row", name := "<init>", desc := "()V" } : Jvm.MethodName) ∈ WL := WL_in (tm1 (List.mem_of_getElem? (i := 209) (by decide +kernel))) rfl
theorem wk1_210 : Jvm.Cond.code ({ cls := "BooksMoved$Row", name := "<init>", desc := "()V" } : Jvm.MethodName) prog_5_method_1_code (1 : Nat) (Option.none : Option Jvm.ClassFile.FieldType) ∈ WL := WL_in (tm1 (List.mem_of_getElem? (i := 210) rfl)) rfl
theorem wk1_211 : Jvm.Cond.methodLink "BooksMoved$Row" (3 : Nat) ({ cls := "java/lang/Object", name := "<init>", desc := "()V" } : Jvm.MethodName) ∈ WL := WL_in (tm1 (List.mem_of_getElem? (i := 211) (by decide +kernel))) rfl
theorem wk1_212 : Jvm.Cond.fieldLink "BooksMoved$Row" (9 : Nat) "BooksMoved$Row" "book" "[I" ∈ WL := WL_in (tm1 (List.mem_of_getElem? (i := 212) (by decide +kernel))) rfl
theorem wk1_213 : Jvm.Cond.fieldLink "BooksMoved" (186 : Nat) "BooksMoved$Row" "book" "[I" ∈ WL := WL_in (tm1 (List.mem_of_getElem? (i := 213) (by decide +kernel))) rfl
theorem wk1_214 : Jvm.Cond.fieldLink "BooksMoved$Row" (15 : Nat) "BooksMoved$Row" "out" "[Z" ∈ WL := WL_in (tm1 (List.mem_of_getElem? (i := 214) (by decide +kernel))) rfl
theorem wk1_215 : Jvm.Cond.fieldLink "BooksMoved" (199 : Nat) "BooksMoved$Row" "out" "[Z" ∈ WL := WL_in (tm1 (List.mem_of_getElem? (i := 215) (by decide +kernel))) rfl
theorem wk1_216 : Jvm.Cond.fieldLink "BooksMoved$Row" (19 : Nat) "BooksMoved$Row" "mostFrom" "[I" ∈ WL := WL_in (tm1 (List.mem_of_getElem? (i := 216) (by decide +kernel))) rfl
theorem wk1_217 : Jvm.Cond.fieldLink "BooksMoved$Row" (22 : Nat) "BooksMoved$Row" "places" "[I" ∈ WL := WL_in (tm1 (List.mem_of_getElem? (i := 217) (by decide +kernel))) rfl
theorem wk1_218 : Jvm.Cond.fieldLink "BooksMoved$Row" (25 : Nat) "BooksMoved$Row" "count" "I" ∈ WL := WL_in (tm1 (List.mem_of_getElem? (i := 218) (by decide +kernel))) rfl
theorem wk1_219 : Jvm.Cond.fieldLink "BooksMoved" (184 : Nat) "BooksMoved$Row" "count" "I" ∈ WL := WL_in (tm1 (List.mem_of_getElem? (i := 219) (by decide +kernel))) rfl
theorem wk1_220 : Jvm.Cond.fieldLink "BooksMoved$Row" (29 : Nat) "BooksMoved$Row" "outs" "I" ∈ WL := WL_in (tm1 (List.mem_of_getElem? (i := 220) (by decide +kernel))) rfl
theorem wk1_221 : Jvm.Cond.fieldLink "BooksMoved" (196 : Nat) "BooksMoved$Row" "outs" "I" ∈ WL := WL_in (tm1 (List.mem_of_getElem? (i := 221) (by decide +kernel))) rfl
theorem wk1_235 : Jvm.Cond.arrayClass Jvm.ClassFile.FieldType.boolean ∈ WL := WL_in (tm1 (List.mem_of_getElem? (i := 235) (by decide +kernel))) rfl
theorem wk1_236 : Jvm.Cond.fieldLink "BooksMoved" (10 : Nat) "BooksMoved" "tape" "LBooksMoved$Tape;" ∈ WL := WL_in (tm1 (List.mem_of_getElem? (i := 236) (by decide +kernel))) rfl
theorem wk1_237 : Jvm.Cond.fieldLink "BooksMoved" (19 : Nat) "BooksMoved" "mark" "LBooksMoved$Mark;" ∈ WL := WL_in (tm1 (List.mem_of_getElem? (i := 237) (by decide +kernel))) rfl
theorem wk1_238 : Jvm.Cond.fieldLink "BooksMoved" (26 : Nat) "BooksMoved" "books" "LBooksMoved$Books;" ∈ WL := WL_in (tm1 (List.mem_of_getElem? (i := 238) (by decide +kernel))) rfl
theorem wk1_239 : Jvm.Cond.fieldLink "BooksMoved" (33 : Nat) "BooksMoved" "shelves" "LBooksMoved$Shelves;" ∈ WL := WL_in (tm1 (List.mem_of_getElem? (i := 239) (by decide +kernel))) rfl
theorem wk2_0 : Jvm.Cond.fieldLink "BooksMoved" (40 : Nat) "BooksMoved" "crates" "LBooksMoved$Crates;" ∈ WL := WL_in (tm2 (List.mem_of_getElem? (i := 0) (by decide +kernel))) rfl
theorem wk2_1 : Jvm.Cond.fieldLink "BooksMoved" (47 : Nat) "BooksMoved" "standing" "LBooksMoved$Row;" ∈ WL := WL_in (tm2 (List.mem_of_getElem? (i := 1) (by decide +kernel))) rfl
theorem wk2_2 : Jvm.Cond.fieldLink "BooksMoved" (51 : Nat) "BooksMoved" "theRule" "I" ∈ WL := WL_in (tm2 (List.mem_of_getElem? (i := 2) (by decide +kernel))) rfl
theorem wk2_3 : Jvm.Cond.fieldLink "BooksMoved" (55 : Nat) "BooksMoved" "plansHold" "Z" ∈ WL := WL_in (tm2 (List.mem_of_getElem? (i := 3) (by decide +kernel))) rfl
theorem wk2_4 : Jvm.Cond.fieldLink "BooksMoved" (59 : Nat) "BooksMoved" "outsHold" "Z" ∈ WL := WL_in (tm2 (List.mem_of_getElem? (i := 4) (by decide +kernel))) rfl
theorem wk2_24 : Jvm.Cond.methodLink "BooksMovedLaw" (13 : Nat) ({ cls := "BooksMoved", name := "feed", desc := "(IIIII)I" } : Jvm.MethodName) ∈ WL := WL_in (tm2 (List.mem_of_getElem? (i := 24) (by decide +kernel))) rfl
theorem wk2_25 : Jvm.Cond.instanceMethod ({ cls := "BooksMoved", name := "feed", desc := "(IIIII)I" } : Jvm.MethodName) ∈ WL := WL_in (tm2 (List.mem_of_getElem? (i := 25) (by decide +kernel))) rfl
theorem wk2_26 : Jvm.Cond.selects "BooksMoved" ({ cls := "BooksMoved", name := "feed", desc := "(IIIII)I" } : Jvm.MethodName) ({ cls := "BooksMoved", name := "feed", desc := "(IIIII)I" } : Jvm.MethodName) ∈ WL := WL_in (tm2 (List.mem_of_getElem? (i := 26) (by decide +kernel))) rfl
theorem wk2_27 : Jvm.Cond.code ({ cls := "BooksMoved", name := "feed", desc := "(IIIII)I" } : Jvm.MethodName) prog_1_method_2_code (6 : Nat) (Option.some Jvm.ClassFile.FieldType.int) ∈ WL := WL_in (tm2 (List.mem_of_getElem? (i := 27) rfl)) rfl
theorem wk2_28 : Jvm.Cond.methodLink "BooksMoved" (65 : Nat) ({ cls := "BooksMoved$Tape", name := "append", desc := "(I)V" } : Jvm.MethodName) ∈ WL := WL_in (tm2 (List.mem_of_getElem? (i := 28) (by decide +kernel))) rfl
theorem wk2_29 : Jvm.Cond.instanceMethod ({ cls := "BooksMoved$Tape", name := "append", desc := "(I)V" } : Jvm.MethodName) ∈ WL := WL_in (tm2 (List.mem_of_getElem? (i := 29) (by decide +kernel))) rfl
theorem wk2_30 : Jvm.Cond.selects "BooksMoved$Tape" ({ cls := "BooksMoved$Tape", name := "append", desc := "(I)V" } : Jvm.MethodName) ({ cls := "BooksMoved$Tape", name := "append", desc := "(I)V" } : Jvm.MethodName) ∈ WL := WL_in (tm2 (List.mem_of_getElem? (i := 30) (by decide +kernel))) rfl
theorem wk2_31 : Jvm.Cond.code ({ cls := "BooksMoved$Tape", name := "append", desc := "(I)V" } : Jvm.MethodName) prog_7_method_2_code (3 : Nat) (Option.none : Option Jvm.ClassFile.FieldType) ∈ WL := WL_in (tm2 (List.mem_of_getElem? (i := 31) rfl)) rfl
theorem wk2_32 : Jvm.Cond.methodLink "BooksMovedLaw" (18 : Nat) ({ cls := "BooksMoved", name := "end", desc := "(I)I" } : Jvm.MethodName) ∈ WL := WL_in (tm2 (List.mem_of_getElem? (i := 32) (by decide +kernel))) rfl
theorem wk2_33 : Jvm.Cond.instanceMethod ({ cls := "BooksMoved", name := "end", desc := "(I)I" } : Jvm.MethodName) ∈ WL := WL_in (tm2 (List.mem_of_getElem? (i := 33) (by decide +kernel))) rfl
theorem wk2_34 : Jvm.Cond.selects "BooksMoved" ({ cls := "BooksMoved", name := "end", desc := "(I)I" } : Jvm.MethodName) ({ cls := "BooksMoved", name := "end", desc := "(I)I" } : Jvm.MethodName) ∈ WL := WL_in (tm2 (List.mem_of_getElem? (i := 34) (by decide +kernel))) rfl
theorem wk2_35 : Jvm.Cond.code ({ cls := "BooksMoved", name := "end", desc := "(I)I" } : Jvm.MethodName) prog_1_method_3_code (2 : Nat) (Option.some Jvm.ClassFile.FieldType.int) ∈ WL := WL_in (tm2 (List.mem_of_getElem? (i := 35) rfl)) rfl
theorem wk2_36 : Jvm.Cond.methodLink "BooksMoved" (69 : Nat) ({ cls := "BooksMoved", name := "within", desc := "(III)Z" } : Jvm.MethodName) ∈ WL := WL_in (tm2 (List.mem_of_getElem? (i := 36) (by decide +kernel))) rfl
theorem wk2_37 : Jvm.Cond.static ({ cls := "BooksMoved", name := "within", desc := "(III)Z" } : Jvm.MethodName) ∈ WL := WL_in (tm2 (List.mem_of_getElem? (i := 37) (by decide +kernel))) rfl
theorem wk2_38 : Jvm.Cond.code ({ cls := "BooksMoved", name := "within", desc := "(III)Z" } : Jvm.MethodName) prog_1_method_26_code (3 : Nat) (Option.some Jvm.ClassFile.FieldType.boolean) ∈ WL := WL_in (tm2 (List.mem_of_getElem? (i := 38) rfl)) rfl
theorem wk2_39 : Jvm.Cond.methodLink "BooksMovedLaw" (23 : Nat) ({ cls := "BooksMoved", name := "book", desc := "(III)I" } : Jvm.MethodName) ∈ WL := WL_in (tm2 (List.mem_of_getElem? (i := 39) (by decide +kernel))) rfl
theorem wk2_40 : Jvm.Cond.instanceMethod ({ cls := "BooksMoved", name := "book", desc := "(III)I" } : Jvm.MethodName) ∈ WL := WL_in (tm2 (List.mem_of_getElem? (i := 40) (by decide +kernel))) rfl
theorem wk2_41 : Jvm.Cond.selects "BooksMoved" ({ cls := "BooksMoved", name := "book", desc := "(III)I" } : Jvm.MethodName) ({ cls := "BooksMoved", name := "book", desc := "(III)I" } : Jvm.MethodName) ∈ WL := WL_in (tm2 (List.mem_of_getElem? (i := 41) (by decide +kernel))) rfl
theorem wk2_42 : Jvm.Cond.code ({ cls := "BooksMoved", name := "book", desc := "(III)I" } : Jvm.MethodName) prog_1_method_4_code (4 : Nat) (Option.some Jvm.ClassFile.FieldType.int) ∈ WL := WL_in (tm2 (List.mem_of_getElem? (i := 42) rfl)) rfl
theorem wk2_43 : Jvm.Cond.methodLink "BooksMoved" (74 : Nat) ({ cls := "BooksMoved$Mark", name := "read", desc := "(LBooksMoved$Tape;)V" } : Jvm.MethodName) ∈ WL := WL_in (tm2 (List.mem_of_getElem? (i := 43) (by decide +kernel))) rfl
theorem wk2_44 : Jvm.Cond.instanceMethod ({ cls := "BooksMoved$Mark", name := "read", desc := "(LBooksMoved$Tape;)V" } : Jvm.MethodName) ∈ WL := WL_in (tm2 (List.mem_of_getElem? (i := 44) (by decide +kernel))) rfl
theorem wk2_45 : Jvm.Cond.selects "BooksMoved$Mark" ({ cls := "BooksMoved$Mark", name := "read", desc := "(LBooksMoved$Tape;)V" } : Jvm.MethodName) ({ cls := "BooksMoved$Mark", name := "read", desc := "(LBooksMoved$Tape;)V" } : Jvm.MethodName) ∈ WL := WL_in (tm2 (List.mem_of_getElem? (i := 45) (by decide +kernel))) rfl
theorem wk2_46 : Jvm.Cond.code ({ cls := "BooksMoved$Mark", name := "read", desc := "(LBooksMoved$Tape;)V" } : Jvm.MethodName) prog_4_method_2_code (4 : Nat) (Option.none : Option Jvm.ClassFile.FieldType) ∈ WL := WL_in (tm2 (List.mem_of_getElem? (i := 46) rfl)) rfl
theorem wk2_47 : Jvm.Cond.methodLink "BooksMoved$Mark" (24 : Nat) ({ cls := "BooksMoved$Mark", name := "pastDigits", desc := "(LBooksMoved$Tape;I)I" } : Jvm.MethodName) ∈ WL := WL_in (tm2 (List.mem_of_getElem? (i := 47) (by decide +kernel))) rfl
theorem wk2_48 : Jvm.Cond.static ({ cls := "BooksMoved$Mark", name := "pastDigits", desc := "(LBooksMoved$Tape;I)I" } : Jvm.MethodName) ∈ WL := WL_in (tm2 (List.mem_of_getElem? (i := 48) (by decide +kernel))) rfl
theorem wk2_49 : Jvm.Cond.code ({ cls := "BooksMoved$Mark", name := "pastDigits", desc := "(LBooksMoved$Tape;I)I" } : Jvm.MethodName) prog_4_method_6_code (3 : Nat) (Option.some Jvm.ClassFile.FieldType.int) ∈ WL := WL_in (tm2 (List.mem_of_getElem? (i := 49) rfl)) rfl
theorem wk2_50 : Jvm.Cond.methodLink "BooksMoved$Mark" (61 : Nat) ({ cls := "BooksMoved$Tape", name := "digitAt", desc := "(I)Z" } : Jvm.MethodName) ∈ WL := WL_in (tm2 (List.mem_of_getElem? (i := 50) (by decide +kernel))) rfl
theorem wk2_51 : Jvm.Cond.instanceMethod ({ cls := "BooksMoved$Tape", name := "digitAt", desc := "(I)Z" } : Jvm.MethodName) ∈ WL := WL_in (tm2 (List.mem_of_getElem? (i := 51) (by decide +kernel))) rfl
theorem wk2_52 : Jvm.Cond.selects "BooksMoved$Tape" ({ cls := "BooksMoved$Tape", name := "digitAt", desc := "(I)Z" } : Jvm.MethodName) ({ cls := "BooksMoved$Tape", name := "digitAt", desc := "(I)Z" } : Jvm.MethodName) ∈ WL := WL_in (tm2 (List.mem_of_getElem? (i := 52) (by decide +kernel))) rfl
theorem wk2_53 : Jvm.Cond.code ({ cls := "BooksMoved$Tape", name := "digitAt", desc := "(I)Z" } : Jvm.MethodName) prog_7_method_4_code (2 : Nat) (Option.some Jvm.ClassFile.FieldType.boolean) ∈ WL := WL_in (tm2 (List.mem_of_getElem? (i := 53) rfl)) rfl
theorem wk2_54 : Jvm.Cond.methodLink "BooksMoved$Tape" (23 : Nat) ({ cls := "BooksMoved$Tape", name := "byteAt", desc := "(I)I" } : Jvm.MethodName) ∈ WL := WL_in (tm2 (List.mem_of_getElem? (i := 54) (by decide +kernel))) rfl
theorem wk2_55 : Jvm.Cond.instanceMethod ({ cls := "BooksMoved$Tape", name := "byteAt", desc := "(I)I" } : Jvm.MethodName) ∈ WL := WL_in (tm2 (List.mem_of_getElem? (i := 55) (by decide +kernel))) rfl
theorem wk2_56 : Jvm.Cond.selects "BooksMoved$Tape" ({ cls := "BooksMoved$Tape", name := "byteAt", desc := "(I)I" } : Jvm.MethodName) ({ cls := "BooksMoved$Tape", name := "byteAt", desc := "(I)I" } : Jvm.MethodName) ∈ WL := WL_in (tm2 (List.mem_of_getElem? (i := 56) (by decide +kernel))) rfl
theorem wk2_57 : Jvm.Cond.code ({ cls := "BooksMoved$Tape", name := "byteAt", desc := "(I)I" } : Jvm.MethodName) prog_7_method_3_code (2 : Nat) (Option.some Jvm.ClassFile.FieldType.int) ∈ WL := WL_in (tm2 (List.mem_of_getElem? (i := 57) rfl)) rfl
theorem wk2_59 : Jvm.Cond.methodLink "BooksMoved$Mark" (28 : Nat) ({ cls := "BooksMoved$Mark", name := "valueOf", desc := "(LBooksMoved$Tape;II)I" } : Jvm.MethodName) ∈ WL := WL_in (tm2 (List.mem_of_getElem? (i := 59) (by decide +kernel))) rfl
theorem wk2_60 : Jvm.Cond.static ({ cls := "BooksMoved$Mark", name := "valueOf", desc := "(LBooksMoved$Tape;II)I" } : Jvm.MethodName) ∈ WL := WL_in (tm2 (List.mem_of_getElem? (i := 60) (by decide +kernel))) rfl
theorem wk2_61 : Jvm.Cond.code ({ cls := "BooksMoved$Mark", name := "valueOf", desc := "(LBooksMoved$Tape;II)I" } : Jvm.MethodName) prog_4_method_8_code (5 : Nat) (Option.some Jvm.ClassFile.FieldType.int) ∈ WL := WL_in (tm2 (List.mem_of_getElem? (i := 61) rfl)) rfl
theorem wk2_62 : Jvm.Cond.methodLink "BooksMoved$Mark" (35 : Nat) ({ cls := "BooksMoved$Tape", name := "byteAt", desc := "(I)I" } : Jvm.MethodName) ∈ WL := WL_in (tm2 (List.mem_of_getElem? (i := 62) (by decide +kernel))) rfl
theorem wk2_63 : Jvm.Cond.methodLink "BooksMoved$Mark" (41 : Nat) ({ cls := "BooksMoved$Mark", name := "readBehind", desc := "(LBooksMoved$Tape;II)V" } : Jvm.MethodName) ∈ WL := WL_in (tm2 (List.mem_of_getElem? (i := 63) (by decide +kernel))) rfl
theorem wk2_65 : Jvm.Cond.instanceMethod ({ cls := "BooksMoved$Mark", name := "readBehind", desc := "(LBooksMoved$Tape;II)V" } : Jvm.MethodName) ∈ WL := WL_in (tm2 (List.mem_of_getElem? (i := 65) (by decide +kernel))) rfl
theorem wk2_66 : Jvm.Cond.code ({ cls := "BooksMoved$Mark", name := "readBehind", desc := "(LBooksMoved$Tape;II)V" } : Jvm.MethodName) prog_4_method_4_code (5 : Nat) (Option.none : Option Jvm.ClassFile.FieldType) ∈ WL := WL_in (tm2 (List.mem_of_getElem? (i := 66) rfl)) rfl
theorem wk2_67 : Jvm.Cond.methodLink "BooksMoved$Mark" (45 : Nat) ({ cls := "BooksMoved$Mark", name := "pastLetters", desc := "(LBooksMoved$Tape;I)I" } : Jvm.MethodName) ∈ WL := WL_in (tm2 (List.mem_of_getElem? (i := 67) (by decide +kernel))) rfl
theorem wk2_68 : Jvm.Cond.static ({ cls := "BooksMoved$Mark", name := "pastLetters", desc := "(LBooksMoved$Tape;I)I" } : Jvm.MethodName) ∈ WL := WL_in (tm2 (List.mem_of_getElem? (i := 68) (by decide +kernel))) rfl
theorem wk2_69 : Jvm.Cond.code ({ cls := "BooksMoved$Mark", name := "pastLetters", desc := "(LBooksMoved$Tape;I)I" } : Jvm.MethodName) prog_4_method_7_code (3 : Nat) (Option.some Jvm.ClassFile.FieldType.int) ∈ WL := WL_in (tm2 (List.mem_of_getElem? (i := 69) rfl)) rfl
theorem wk2_70 : Jvm.Cond.methodLink "BooksMoved$Mark" (65 : Nat) ({ cls := "BooksMoved$Tape", name := "letterAt", desc := "(I)Z" } : Jvm.MethodName) ∈ WL := WL_in (tm2 (List.mem_of_getElem? (i := 70) (by decide +kernel))) rfl
theorem wk2_71 : Jvm.Cond.instanceMethod ({ cls := "BooksMoved$Tape", name := "letterAt", desc := "(I)Z" } : Jvm.MethodName) ∈ WL := WL_in (tm2 (List.mem_of_getElem? (i := 71) (by decide +kernel))) rfl
theorem wk2_72 : Jvm.Cond.selects "BooksMoved$Tape" ({ cls := "BooksMoved$Tape", name := "letterAt", desc := "(I)Z" } : Jvm.MethodName) ({ cls := "BooksMoved$Tape", name := "letterAt", desc := "(I)Z" } : Jvm.MethodName) ∈ WL := WL_in (tm2 (List.mem_of_getElem? (i := 72) (by decide +kernel))) rfl
theorem wk2_73 : Jvm.Cond.code ({ cls := "BooksMoved$Tape", name := "letterAt", desc := "(I)Z" } : Jvm.MethodName) prog_7_method_5_code (2 : Nat) (Option.some Jvm.ClassFile.FieldType.boolean) ∈ WL := WL_in (tm2 (List.mem_of_getElem? (i := 73) rfl)) rfl
theorem wk2_74 : Jvm.Cond.methodLink "BooksMoved$Mark" (48 : Nat) ({ cls := "BooksMoved$Mark", name := "readLetters", desc := "(LBooksMoved$Tape;II)V" } : Jvm.MethodName) ∈ WL := WL_in (tm2 (List.mem_of_getElem? (i := 74) (by decide +kernel))) rfl
theorem wk2_76 : Jvm.Cond.instanceMethod ({ cls := "BooksMoved$Mark", name := "readLetters", desc := "(LBooksMoved$Tape;II)V" } : Jvm.MethodName) ∈ WL := WL_in (tm2 (List.mem_of_getElem? (i := 76) (by decide +kernel))) rfl
theorem wk2_77 : Jvm.Cond.code ({ cls := "BooksMoved$Mark", name := "readLetters", desc := "(LBooksMoved$Tape;II)V" } : Jvm.MethodName) prog_4_method_5_code (5 : Nat) (Option.none : Option Jvm.ClassFile.FieldType) ∈ WL := WL_in (tm2 (List.mem_of_getElem? (i := 77) rfl)) rfl
theorem wk2_78 : Jvm.Cond.methodLink "BooksMoved" (81 : Nat) ({ cls := "BooksMoved", name := "forgetWhatFollows", desc := "()V" } : Jvm.MethodName) ∈ WL := WL_in (tm2 (List.mem_of_getElem? (i := 78) (by decide +kernel))) rfl
theorem wk2_80 : Jvm.Cond.instanceMethod ({ cls := "BooksMoved", name := "forgetWhatFollows", desc := "()V" } : Jvm.MethodName) ∈ WL := WL_in (tm2 (List.mem_of_getElem? (i := 80) (by decide +kernel))) rfl
theorem wk2_81 : Jvm.Cond.code ({ cls := "BooksMoved", name := "forgetWhatFollows", desc := "()V" } : Jvm.MethodName) prog_1_method_28_code (1 : Nat) (Option.none : Option Jvm.ClassFile.FieldType) ∈ WL := WL_in (tm2 (List.mem_of_getElem? (i := 81) rfl)) rfl
theorem wk2_82 : Jvm.Cond.methodLink "BooksMoved" (84 : Nat) ({ cls := "BooksMoved$Books", name := "add", desc := "(LBooksMoved$Mark;III)I" } : Jvm.MethodName) ∈ WL := WL_in (tm2 (List.mem_of_getElem? (i := 82) (by decide +kernel))) rfl
theorem wk2_83 : Jvm.Cond.instanceMethod ({ cls := "BooksMoved$Books", name := "add", desc := "(LBooksMoved$Mark;III)I" } : Jvm.MethodName) ∈ WL := WL_in (tm2 (List.mem_of_getElem? (i := 83) (by decide +kernel))) rfl
theorem wk2_84 : Jvm.Cond.selects "BooksMoved$Books" ({ cls := "BooksMoved$Books", name := "add", desc := "(LBooksMoved$Mark;III)I" } : Jvm.MethodName) ({ cls := "BooksMoved$Books", name := "add", desc := "(LBooksMoved$Mark;III)I" } : Jvm.MethodName) ∈ WL := WL_in (tm2 (List.mem_of_getElem? (i := 84) (by decide +kernel))) rfl
theorem wk2_85 : Jvm.Cond.code ({ cls := "BooksMoved$Books", name := "add", desc := "(LBooksMoved$Mark;III)I" } : Jvm.MethodName) prog_2_method_3_code (7 : Nat) (Option.some Jvm.ClassFile.FieldType.int) ∈ WL := WL_in (tm2 (List.mem_of_getElem? (i := 85) rfl)) rfl
theorem wk2_86 : Jvm.Cond.methodLink "BooksMoved$Books" (50 : Nat) ({ cls := "BooksMoved$Mark", name := "keyBy", desc := "(I)J" } : Jvm.MethodName) ∈ WL := WL_in (tm2 (List.mem_of_getElem? (i := 86) (by decide +kernel))) rfl
theorem wk2_87 : Jvm.Cond.instanceMethod ({ cls := "BooksMoved$Mark", name := "keyBy", desc := "(I)J" } : Jvm.MethodName) ∈ WL := WL_in (tm2 (List.mem_of_getElem? (i := 87) (by decide +kernel))) rfl
theorem wk2_88 : Jvm.Cond.selects "BooksMoved$Mark" ({ cls := "BooksMoved$Mark", name := "keyBy", desc := "(I)J" } : Jvm.MethodName) ({ cls := "BooksMoved$Mark", name := "keyBy", desc := "(I)J" } : Jvm.MethodName) ∈ WL := WL_in (tm2 (List.mem_of_getElem? (i := 88) (by decide +kernel))) rfl
theorem wk2_89 : Jvm.Cond.code ({ cls := "BooksMoved$Mark", name := "keyBy", desc := "(I)J" } : Jvm.MethodName) prog_4_method_3_code (3 : Nat) (Option.some Jvm.ClassFile.FieldType.long) ∈ WL := WL_in (tm2 (List.mem_of_getElem? (i := 89) rfl)) rfl
theorem wk2_90 : Jvm.Cond.constantLong "BooksMoved$Mark" (54 : Nat) (50000 : Int64) ∈ WL := WL_in (tm2 (List.mem_of_getElem? (i := 90) (by decide +kernel))) rfl
theorem wk2_91 : Jvm.Cond.constantLong "BooksMoved$Mark" (56 : Nat) (19683 : Int64) ∈ WL := WL_in (tm2 (List.mem_of_getElem? (i := 91) (by decide +kernel))) rfl
theorem wk2_92 : Jvm.Cond.methodLink "BooksMoved$Books" (54 : Nat) ({ cls := "BooksMoved$Books", name := "putInOrder", desc := "(II)V" } : Jvm.MethodName) ∈ WL := WL_in (tm2 (List.mem_of_getElem? (i := 92) (by decide +kernel))) rfl
theorem wk2_94 : Jvm.Cond.instanceMethod ({ cls := "BooksMoved$Books", name := "putInOrder", desc := "(II)V" } : Jvm.MethodName) ∈ WL := WL_in (tm2 (List.mem_of_getElem? (i := 94) (by decide +kernel))) rfl
theorem wk2_95 : Jvm.Cond.code ({ cls := "BooksMoved$Books", name := "putInOrder", desc := "(II)V" } : Jvm.MethodName) prog_2_method_5_code (4 : Nat) (Option.none : Option Jvm.ClassFile.FieldType) ∈ WL := WL_in (tm2 (List.mem_of_getElem? (i := 95) rfl)) rfl
theorem wk2_96 : Jvm.Cond.methodLink "BooksMoved$Books" (62 : Nat) ({ cls := "BooksMoved$Books", name := "sign", desc := "(III)I" } : Jvm.MethodName) ∈ WL := WL_in (tm2 (List.mem_of_getElem? (i := 96) (by decide +kernel))) rfl
theorem wk2_97 : Jvm.Cond.instanceMethod ({ cls := "BooksMoved$Books", name := "sign", desc := "(III)I" } : Jvm.MethodName) ∈ WL := WL_in (tm2 (List.mem_of_getElem? (i := 97) (by decide +kernel))) rfl
theorem wk2_98 : Jvm.Cond.selects "BooksMoved$Books" ({ cls := "BooksMoved$Books", name := "sign", desc := "(III)I" } : Jvm.MethodName) ({ cls := "BooksMoved$Books", name := "sign", desc := "(III)I" } : Jvm.MethodName) ∈ WL := WL_in (tm2 (List.mem_of_getElem? (i := 98) (by decide +kernel))) rfl
theorem wk2_99 : Jvm.Cond.code ({ cls := "BooksMoved$Books", name := "sign", desc := "(III)I" } : Jvm.MethodName) prog_2_method_4_code (8 : Nat) (Option.some Jvm.ClassFile.FieldType.int) ∈ WL := WL_in (tm2 (List.mem_of_getElem? (i := 99) rfl)) rfl
theorem wk2_100 : Jvm.Cond.methodLink "BooksMoved$Books" (58 : Nat) ({ cls := "BooksMoved$Books", name := "quarrelsWithEarlier", desc := "(I)I" } : Jvm.MethodName) ∈ WL := WL_in (tm2 (List.mem_of_getElem? (i := 100) (by decide +kernel))) rfl
theorem wk2_102 : Jvm.Cond.instanceMethod ({ cls := "BooksMoved$Books", name := "quarrelsWithEarlier", desc := "(I)I" } : Jvm.MethodName) ∈ WL := WL_in (tm2 (List.mem_of_getElem? (i := 102) (by decide +kernel))) rfl
theorem wk2_103 : Jvm.Cond.code ({ cls := "BooksMoved$Books", name := "quarrelsWithEarlier", desc := "(I)I" } : Jvm.MethodName) prog_2_method_6_code (4 : Nat) (Option.some Jvm.ClassFile.FieldType.int) ∈ WL := WL_in (tm2 (List.mem_of_getElem? (i := 103) rfl)) rfl
theorem wk2_104 : Jvm.Cond.methodLink "BooksMovedLaw" (28 : Nat) ({ cls := "BooksMoved", name := "wrong", desc := "()I" } : Jvm.MethodName) ∈ WL := WL_in (tm2 (List.mem_of_getElem? (i := 104) (by decide +kernel))) rfl
theorem wk2_105 : Jvm.Cond.instanceMethod ({ cls := "BooksMoved", name := "wrong", desc := "()I" } : Jvm.MethodName) ∈ WL := WL_in (tm2 (List.mem_of_getElem? (i := 105) (by decide +kernel))) rfl
theorem wk2_106 : Jvm.Cond.selects "BooksMoved" ({ cls := "BooksMoved", name := "wrong", desc := "()I" } : Jvm.MethodName) ({ cls := "BooksMoved", name := "wrong", desc := "()I" } : Jvm.MethodName) ∈ WL := WL_in (tm2 (List.mem_of_getElem? (i := 106) (by decide +kernel))) rfl
theorem wk2_107 : Jvm.Cond.code ({ cls := "BooksMoved", name := "wrong", desc := "()I" } : Jvm.MethodName) prog_1_method_5_code (1 : Nat) (Option.some Jvm.ClassFile.FieldType.int) ∈ WL := WL_in (tm2 (List.mem_of_getElem? (i := 107) rfl)) rfl
theorem wk2_108 : Jvm.Cond.methodLink "BooksMovedLaw" (33 : Nat) ({ cls := "BooksMoved", name := "rule", desc := "(I)Z" } : Jvm.MethodName) ∈ WL := WL_in (tm2 (List.mem_of_getElem? (i := 108) (by decide +kernel))) rfl
theorem wk2_109 : Jvm.Cond.instanceMethod ({ cls := "BooksMoved", name := "rule", desc := "(I)Z" } : Jvm.MethodName) ∈ WL := WL_in (tm2 (List.mem_of_getElem? (i := 109) (by decide +kernel))) rfl
theorem wk2_110 : Jvm.Cond.selects "BooksMoved" ({ cls := "BooksMoved", name := "rule", desc := "(I)Z" } : Jvm.MethodName) ({ cls := "BooksMoved", name := "rule", desc := "(I)Z" } : Jvm.MethodName) ∈ WL := WL_in (tm2 (List.mem_of_getElem? (i := 110) (by decide +kernel))) rfl
theorem wk2_111 : Jvm.Cond.code ({ cls := "BooksMoved", name := "rule", desc := "(I)Z" } : Jvm.MethodName) prog_1_method_6_code (2 : Nat) (Option.some Jvm.ClassFile.FieldType.boolean) ∈ WL := WL_in (tm2 (List.mem_of_getElem? (i := 111) rfl)) rfl
theorem wk2_112 : Jvm.Cond.methodLink "BooksMoved" (88 : Nat) ({ cls := "BooksMoved", name := "isRule", desc := "(I)Z" } : Jvm.MethodName) ∈ WL := WL_in (tm2 (List.mem_of_getElem? (i := 112) (by decide +kernel))) rfl
theorem wk2_113 : Jvm.Cond.static ({ cls := "BooksMoved", name := "isRule", desc := "(I)Z" } : Jvm.MethodName) ∈ WL := WL_in (tm2 (List.mem_of_getElem? (i := 113) (by decide +kernel))) rfl
theorem wk2_114 : Jvm.Cond.code ({ cls := "BooksMoved", name := "isRule", desc := "(I)Z" } : Jvm.MethodName) prog_1_method_27_code (1 : Nat) (Option.some Jvm.ClassFile.FieldType.boolean) ∈ WL := WL_in (tm2 (List.mem_of_getElem? (i := 114) rfl)) rfl
theorem wk2_115 : Jvm.Cond.methodLink "BooksMovedLaw" (38 : Nat) ({ cls := "BooksMoved", name := "compare", desc := "(III)I" } : Jvm.MethodName) ∈ WL := WL_in (tm2 (List.mem_of_getElem? (i := 115) (by decide +kernel))) rfl
theorem wk2_116 : Jvm.Cond.instanceMethod ({ cls := "BooksMoved", name := "compare", desc := "(III)I" } : Jvm.MethodName) ∈ WL := WL_in (tm2 (List.mem_of_getElem? (i := 116) (by decide +kernel))) rfl
theorem wk2_117 : Jvm.Cond.selects "BooksMoved" ({ cls := "BooksMoved", name := "compare", desc := "(III)I" } : Jvm.MethodName) ({ cls := "BooksMoved", name := "compare", desc := "(III)I" } : Jvm.MethodName) ∈ WL := WL_in (tm2 (List.mem_of_getElem? (i := 117) (by decide +kernel))) rfl
theorem wk2_118 : Jvm.Cond.code ({ cls := "BooksMoved", name := "compare", desc := "(III)I" } : Jvm.MethodName) prog_1_method_7_code (4 : Nat) (Option.some Jvm.ClassFile.FieldType.int) ∈ WL := WL_in (tm2 (List.mem_of_getElem? (i := 118) rfl)) rfl
theorem wk2_119 : Jvm.Cond.methodLink "BooksMoved" (92 : Nat) ({ cls := "BooksMoved$Books", name := "has", desc := "(I)Z" } : Jvm.MethodName) ∈ WL := WL_in (tm2 (List.mem_of_getElem? (i := 119) (by decide +kernel))) rfl
theorem wk2_120 : Jvm.Cond.instanceMethod ({ cls := "BooksMoved$Books", name := "has", desc := "(I)Z" } : Jvm.MethodName) ∈ WL := WL_in (tm2 (List.mem_of_getElem? (i := 120) (by decide +kernel))) rfl
theorem wk2_121 : Jvm.Cond.selects "BooksMoved$Books" ({ cls := "BooksMoved$Books", name := "has", desc := "(I)Z" } : Jvm.MethodName) ({ cls := "BooksMoved$Books", name := "has", desc := "(I)Z" } : Jvm.MethodName) ∈ WL := WL_in (tm2 (List.mem_of_getElem? (i := 121) (by decide +kernel))) rfl
theorem wk2_122 : Jvm.Cond.code ({ cls := "BooksMoved$Books", name := "has", desc := "(I)Z" } : Jvm.MethodName) prog_2_method_2_code (2 : Nat) (Option.some Jvm.ClassFile.FieldType.boolean) ∈ WL := WL_in (tm2 (List.mem_of_getElem? (i := 122) rfl)) rfl
theorem wk2_124 : Jvm.Cond.methodLink "BooksMoved" (95 : Nat) ({ cls := "BooksMoved$Books", name := "sign", desc := "(III)I" } : Jvm.MethodName) ∈ WL := WL_in (tm2 (List.mem_of_getElem? (i := 124) (by decide +kernel))) rfl
theorem wk2_125 : Jvm.Cond.methodLink "BooksMovedLaw" (42 : Nat) ({ cls := "BooksMoved", name := "ordered", desc := "(II)I" } : Jvm.MethodName) ∈ WL := WL_in (tm2 (List.mem_of_getElem? (i := 125) (by decide +kernel))) rfl
theorem wk2_126 : Jvm.Cond.instanceMethod ({ cls := "BooksMoved", name := "ordered", desc := "(II)I" } : Jvm.MethodName) ∈ WL := WL_in (tm2 (List.mem_of_getElem? (i := 126) (by decide +kernel))) rfl
theorem wk2_127 : Jvm.Cond.selects "BooksMoved" ({ cls := "BooksMoved", name := "ordered", desc := "(II)I" } : Jvm.MethodName) ({ cls := "BooksMoved", name := "ordered", desc := "(II)I" } : Jvm.MethodName) ∈ WL := WL_in (tm2 (List.mem_of_getElem? (i := 127) (by decide +kernel))) rfl
theorem wk2_128 : Jvm.Cond.code ({ cls := "BooksMoved", name := "ordered", desc := "(II)I" } : Jvm.MethodName) prog_1_method_8_code (3 : Nat) (Option.some Jvm.ClassFile.FieldType.int) ∈ WL := WL_in (tm2 (List.mem_of_getElem? (i := 128) rfl)) rfl
theorem wk2_129 : Jvm.Cond.methodLink "BooksMovedLaw" (47 : Nat) ({ cls := "BooksMoved", name := "quarrels", desc := "()I" } : Jvm.MethodName) ∈ WL := WL_in (tm2 (List.mem_of_getElem? (i := 129) (by decide +kernel))) rfl
theorem wk2_130 : Jvm.Cond.instanceMethod ({ cls := "BooksMoved", name := "quarrels", desc := "()I" } : Jvm.MethodName) ∈ WL := WL_in (tm2 (List.mem_of_getElem? (i := 130) (by decide +kernel))) rfl
theorem wk2_131 : Jvm.Cond.selects "BooksMoved" ({ cls := "BooksMoved", name := "quarrels", desc := "()I" } : Jvm.MethodName) ({ cls := "BooksMoved", name := "quarrels", desc := "()I" } : Jvm.MethodName) ∈ WL := WL_in (tm2 (List.mem_of_getElem? (i := 131) (by decide +kernel))) rfl
theorem wk2_132 : Jvm.Cond.code ({ cls := "BooksMoved", name := "quarrels", desc := "()I" } : Jvm.MethodName) prog_1_method_9_code (1 : Nat) (Option.some Jvm.ClassFile.FieldType.int) ∈ WL := WL_in (tm2 (List.mem_of_getElem? (i := 132) rfl)) rfl
theorem wk2_133 : Jvm.Cond.methodLink "BooksMovedLaw" (51 : Nat) ({ cls := "BooksMoved", name := "shelf", desc := "(I)I" } : Jvm.MethodName) ∈ WL := WL_in (tm2 (List.mem_of_getElem? (i := 133) (by decide +kernel))) rfl
theorem wk2_134 : Jvm.Cond.instanceMethod ({ cls := "BooksMoved", name := "shelf", desc := "(I)I" } : Jvm.MethodName) ∈ WL := WL_in (tm2 (List.mem_of_getElem? (i := 134) (by decide +kernel))) rfl
theorem wk2_135 : Jvm.Cond.selects "BooksMoved" ({ cls := "BooksMoved", name := "shelf", desc := "(I)I" } : Jvm.MethodName) ({ cls := "BooksMoved", name := "shelf", desc := "(I)I" } : Jvm.MethodName) ∈ WL := WL_in (tm2 (List.mem_of_getElem? (i := 135) (by decide +kernel))) rfl
theorem wk2_136 : Jvm.Cond.code ({ cls := "BooksMoved", name := "shelf", desc := "(I)I" } : Jvm.MethodName) prog_1_method_10_code (2 : Nat) (Option.some Jvm.ClassFile.FieldType.int) ∈ WL := WL_in (tm2 (List.mem_of_getElem? (i := 136) rfl)) rfl
theorem wk2_137 : Jvm.Cond.methodLink "BooksMoved" (107 : Nat) ({ cls := "BooksMoved$Shelves", name := "add", desc := "(I)I" } : Jvm.MethodName) ∈ WL := WL_in (tm2 (List.mem_of_getElem? (i := 137) (by decide +kernel))) rfl
theorem wk2_138 : Jvm.Cond.instanceMethod ({ cls := "BooksMoved$Shelves", name := "add", desc := "(I)I" } : Jvm.MethodName) ∈ WL := WL_in (tm2 (List.mem_of_getElem? (i := 138) (by decide +kernel))) rfl
theorem wk2_139 : Jvm.Cond.selects "BooksMoved$Shelves" ({ cls := "BooksMoved$Shelves", name := "add", desc := "(I)I" } : Jvm.MethodName) ({ cls := "BooksMoved$Shelves", name := "add", desc := "(I)I" } : Jvm.MethodName) ∈ WL := WL_in (tm2 (List.mem_of_getElem? (i := 139) (by decide +kernel))) rfl
theorem wk2_140 : Jvm.Cond.code ({ cls := "BooksMoved$Shelves", name := "add", desc := "(I)I" } : Jvm.MethodName) prog_6_method_2_code (2 : Nat) (Option.some Jvm.ClassFile.FieldType.int) ∈ WL := WL_in (tm2 (List.mem_of_getElem? (i := 140) rfl)) rfl
theorem wk2_141 : Jvm.Cond.methodLink "BooksMovedLaw" (55 : Nat) ({ cls := "BooksMoved", name := "sizes", desc := "(II)Z" } : Jvm.MethodName) ∈ WL := WL_in (tm2 (List.mem_of_getElem? (i := 141) (by decide +kernel))) rfl
theorem wk2_142 : Jvm.Cond.instanceMethod ({ cls := "BooksMoved", name := "sizes", desc := "(II)Z" } : Jvm.MethodName) ∈ WL := WL_in (tm2 (List.mem_of_getElem? (i := 142) (by decide +kernel))) rfl
theorem wk2_143 : Jvm.Cond.selects "BooksMoved" ({ cls := "BooksMoved", name := "sizes", desc := "(II)Z" } : Jvm.MethodName) ({ cls := "BooksMoved", name := "sizes", desc := "(II)Z" } : Jvm.MethodName) ∈ WL := WL_in (tm2 (List.mem_of_getElem? (i := 143) (by decide +kernel))) rfl
theorem wk2_144 : Jvm.Cond.code ({ cls := "BooksMoved", name := "sizes", desc := "(II)Z" } : Jvm.MethodName) prog_1_method_11_code (3 : Nat) (Option.some Jvm.ClassFile.FieldType.boolean) ∈ WL := WL_in (tm2 (List.mem_of_getElem? (i := 144) rfl)) rfl
theorem wk2_145 : Jvm.Cond.methodLink "BooksMovedLaw" (60 : Nat) ({ cls := "BooksMoved", name := "laid", desc := "(II)I" } : Jvm.MethodName) ∈ WL := WL_in (tm2 (List.mem_of_getElem? (i := 145) (by decide +kernel))) rfl
theorem wk2_146 : Jvm.Cond.instanceMethod ({ cls := "BooksMoved", name := "laid", desc := "(II)I" } : Jvm.MethodName) ∈ WL := WL_in (tm2 (List.mem_of_getElem? (i := 146) (by decide +kernel))) rfl
theorem wk2_147 : Jvm.Cond.selects "BooksMoved" ({ cls := "BooksMoved", name := "laid", desc := "(II)I" } : Jvm.MethodName) ({ cls := "BooksMoved", name := "laid", desc := "(II)I" } : Jvm.MethodName) ∈ WL := WL_in (tm2 (List.mem_of_getElem? (i := 147) (by decide +kernel))) rfl
theorem wk2_148 : Jvm.Cond.code ({ cls := "BooksMoved", name := "laid", desc := "(II)I" } : Jvm.MethodName) prog_1_method_12_code (3 : Nat) (Option.some Jvm.ClassFile.FieldType.int) ∈ WL := WL_in (tm2 (List.mem_of_getElem? (i := 148) rfl)) rfl
theorem wk2_149 : Jvm.Cond.methodLink "BooksMoved" (120 : Nat) ({ cls := "BooksMoved", name := "makePlans", desc := "()V" } : Jvm.MethodName) ∈ WL := WL_in (tm2 (List.mem_of_getElem? (i := 149) (by decide +kernel))) rfl
theorem wk2_151 : Jvm.Cond.instanceMethod ({ cls := "BooksMoved", name := "makePlans", desc := "()V" } : Jvm.MethodName) ∈ WL := WL_in (tm2 (List.mem_of_getElem? (i := 151) (by decide +kernel))) rfl
theorem wk2_152 : Jvm.Cond.code ({ cls := "BooksMoved", name := "makePlans", desc := "()V" } : Jvm.MethodName) prog_1_method_29_code (1 : Nat) (Option.none : Option Jvm.ClassFile.FieldType) ∈ WL := WL_in (tm2 (List.mem_of_getElem? (i := 152) rfl)) rfl
theorem wk2_153 : Jvm.Cond.methodLink "BooksMoved" (207 : Nat) ({ cls := "BooksMoved$Shelves", name := "lay", desc := "(LBooksMoved$Books;I)V" } : Jvm.MethodName) ∈ WL := WL_in (tm2 (List.mem_of_getElem? (i := 153) (by decide +kernel))) rfl
theorem wk2_154 : Jvm.Cond.instanceMethod ({ cls := "BooksMoved$Shelves", name := "lay", desc := "(LBooksMoved$Books;I)V" } : Jvm.MethodName) ∈ WL := WL_in (tm2 (List.mem_of_getElem? (i := 154) (by decide +kernel))) rfl
theorem wk2_155 : Jvm.Cond.selects "BooksMoved$Shelves" ({ cls := "BooksMoved$Shelves", name := "lay", desc := "(LBooksMoved$Books;I)V" } : Jvm.MethodName) ({ cls := "BooksMoved$Shelves", name := "lay", desc := "(LBooksMoved$Books;I)V" } : Jvm.MethodName) ∈ WL := WL_in (tm2 (List.mem_of_getElem? (i := 155) (by decide +kernel))) rfl
theorem wk2_156 : Jvm.Cond.code ({ cls := "BooksMoved$Shelves", name := "lay", desc := "(LBooksMoved$Books;I)V" } : Jvm.MethodName) prog_6_method_4_code (7 : Nat) (Option.none : Option Jvm.ClassFile.FieldType) ∈ WL := WL_in (tm2 (List.mem_of_getElem? (i := 156) rfl)) rfl
theorem wk2_157 : Jvm.Cond.methodLink "BooksMoved$Shelves" (43 : Nat) ({ cls := "BooksMoved$Shelves", name := "clear", desc := "()V" } : Jvm.MethodName) ∈ WL := WL_in (tm2 (List.mem_of_getElem? (i := 157) (by decide +kernel))) rfl
theorem wk2_159 : Jvm.Cond.instanceMethod ({ cls := "BooksMoved$Shelves", name := "clear", desc := "()V" } : Jvm.MethodName) ∈ WL := WL_in (tm2 (List.mem_of_getElem? (i := 159) (by decide +kernel))) rfl
theorem wk2_160 : Jvm.Cond.code ({ cls := "BooksMoved$Shelves", name := "clear", desc := "()V" } : Jvm.MethodName) prog_6_method_5_code (2 : Nat) (Option.none : Option Jvm.ClassFile.FieldType) ∈ WL := WL_in (tm2 (List.mem_of_getElem? (i := 160) rfl)) rfl
theorem wk2_161 : Jvm.Cond.methodLink "BooksMoved$Shelves" (62 : Nat) ({ cls := "BooksMoved$Shelves", name := "room", desc := "(I)I" } : Jvm.MethodName) ∈ WL := WL_in (tm2 (List.mem_of_getElem? (i := 161) (by decide +kernel))) rfl
theorem wk2_162 : Jvm.Cond.instanceMethod ({ cls := "BooksMoved$Shelves", name := "room", desc := "(I)I" } : Jvm.MethodName) ∈ WL := WL_in (tm2 (List.mem_of_getElem? (i := 162) (by decide +kernel))) rfl
theorem wk2_163 : Jvm.Cond.selects "BooksMoved$Shelves" ({ cls := "BooksMoved$Shelves", name := "room", desc := "(I)I" } : Jvm.MethodName) ({ cls := "BooksMoved$Shelves", name := "room", desc := "(I)I" } : Jvm.MethodName) ∈ WL := WL_in (tm2 (List.mem_of_getElem? (i := 163) (by decide +kernel))) rfl
theorem wk2_164 : Jvm.Cond.code ({ cls := "BooksMoved$Shelves", name := "room", desc := "(I)I" } : Jvm.MethodName) prog_6_method_3_code (2 : Nat) (Option.some Jvm.ClassFile.FieldType.int) ∈ WL := WL_in (tm2 (List.mem_of_getElem? (i := 164) rfl)) rfl
theorem wk2_165 : Jvm.Cond.methodLink "BooksMoved$Shelves" (66 : Nat) ({ cls := "BooksMoved$Shelves", name := "put", desc := "(III)V" } : Jvm.MethodName) ∈ WL := WL_in (tm2 (List.mem_of_getElem? (i := 165) (by decide +kernel))) rfl
theorem wk2_167 : Jvm.Cond.instanceMethod ({ cls := "BooksMoved$Shelves", name := "put", desc := "(III)V" } : Jvm.MethodName) ∈ WL := WL_in (tm2 (List.mem_of_getElem? (i := 167) (by decide +kernel))) rfl
theorem wk2_168 : Jvm.Cond.code ({ cls := "BooksMoved$Shelves", name := "put", desc := "(III)V" } : Jvm.MethodName) prog_6_method_6_code (4 : Nat) (Option.none : Option Jvm.ClassFile.FieldType) ∈ WL := WL_in (tm2 (List.mem_of_getElem? (i := 168) rfl)) rfl
theorem wk2_169 : Jvm.Cond.methodLink "BooksMoved" (211 : Nat) ({ cls := "BooksMoved$Crates", name := "pack", desc := "(LBooksMoved$Books;I)V" } : Jvm.MethodName) ∈ WL := WL_in (tm2 (List.mem_of_getElem? (i := 169) (by decide +kernel))) rfl
theorem wk2_170 : Jvm.Cond.instanceMethod ({ cls := "BooksMoved$Crates", name := "pack", desc := "(LBooksMoved$Books;I)V" } : Jvm.MethodName) ∈ WL := WL_in (tm2 (List.mem_of_getElem? (i := 170) (by decide +kernel))) rfl
theorem wk2_171 : Jvm.Cond.selects "BooksMoved$Crates" ({ cls := "BooksMoved$Crates", name := "pack", desc := "(LBooksMoved$Books;I)V" } : Jvm.MethodName) ({ cls := "BooksMoved$Crates", name := "pack", desc := "(LBooksMoved$Books;I)V" } : Jvm.MethodName) ∈ WL := WL_in (tm2 (List.mem_of_getElem? (i := 171) (by decide +kernel))) rfl
theorem wk2_172 : Jvm.Cond.code ({ cls := "BooksMoved$Crates", name := "pack", desc := "(LBooksMoved$Books;I)V" } : Jvm.MethodName) prog_3_method_2_code (7 : Nat) (Option.none : Option Jvm.ClassFile.FieldType) ∈ WL := WL_in (tm2 (List.mem_of_getElem? (i := 172) rfl)) rfl
theorem wk2_173 : Jvm.Cond.methodLink "BooksMoved" (214 : Nat) ({ cls := "BooksMoved$Crates", name := "meet", desc := "()V" } : Jvm.MethodName) ∈ WL := WL_in (tm2 (List.mem_of_getElem? (i := 173) (by decide +kernel))) rfl
theorem wk2_174 : Jvm.Cond.instanceMethod ({ cls := "BooksMoved$Crates", name := "meet", desc := "()V" } : Jvm.MethodName) ∈ WL := WL_in (tm2 (List.mem_of_getElem? (i := 174) (by decide +kernel))) rfl
theorem wk2_175 : Jvm.Cond.selects "BooksMoved$Crates" ({ cls := "BooksMoved$Crates", name := "meet", desc := "()V" } : Jvm.MethodName) ({ cls := "BooksMoved$Crates", name := "meet", desc := "()V" } : Jvm.MethodName) ∈ WL := WL_in (tm2 (List.mem_of_getElem? (i := 175) (by decide +kernel))) rfl
theorem wk2_176 : Jvm.Cond.code ({ cls := "BooksMoved$Crates", name := "meet", desc := "()V" } : Jvm.MethodName) prog_3_method_3_code (5 : Nat) (Option.none : Option Jvm.ClassFile.FieldType) ∈ WL := WL_in (tm2 (List.mem_of_getElem? (i := 176) rfl)) rfl
theorem wk2_177 : Jvm.Cond.methodLink "BooksMoved$Crates" (57 : Nat) ({ cls := "java/lang/Math", name := "max", desc := "(II)I" } : Jvm.MethodName) ∈ WL := WL_in (tm2 (List.mem_of_getElem? (i := 177) (by decide +kernel))) rfl
theorem wk2_178 : Jvm.Cond.static ({ cls := "java/lang/Math", name := "max", desc := "(II)I" } : Jvm.MethodName) ∈ WL := WL_in (tm2 (List.mem_of_getElem? (i := 178) (by decide +kernel))) rfl
theorem wk2_179 : Jvm.Cond.code ({ cls := "java/lang/Math", name := "max", desc := "(II)I" } : Jvm.MethodName) prog_10_method_65_code (2 : Nat) (Option.some Jvm.ClassFile.FieldType.int) ∈ WL := WL_in (tm2 (List.mem_of_getElem? (i := 179) rfl)) rfl
theorem wk2_180 : Jvm.Cond.methodLink "BooksMoved$Crates" (63 : Nat) ({ cls := "BooksMoved$Crates", name := "setMinutes", desc := "()V" } : Jvm.MethodName) ∈ WL := WL_in (tm2 (List.mem_of_getElem? (i := 180) (by decide +kernel))) rfl
theorem wk2_182 : Jvm.Cond.instanceMethod ({ cls := "BooksMoved$Crates", name := "setMinutes", desc := "()V" } : Jvm.MethodName) ∈ WL := WL_in (tm2 (List.mem_of_getElem? (i := 182) (by decide +kernel))) rfl
theorem wk2_183 : Jvm.Cond.code ({ cls := "BooksMoved$Crates", name := "setMinutes", desc := "()V" } : Jvm.MethodName) prog_3_method_6_code (3 : Nat) (Option.none : Option Jvm.ClassFile.FieldType) ∈ WL := WL_in (tm2 (List.mem_of_getElem? (i := 183) rfl)) rfl
theorem wk2_184 : Jvm.Cond.methodLink "BooksMoved$Crates" (66 : Nat) ({ cls := "BooksMoved$Crates", name := "carryFrom", desc := "(II)I" } : Jvm.MethodName) ∈ WL := WL_in (tm2 (List.mem_of_getElem? (i := 184) (by decide +kernel))) rfl
theorem wk2_186 : Jvm.Cond.instanceMethod ({ cls := "BooksMoved$Crates", name := "carryFrom", desc := "(II)I" } : Jvm.MethodName) ∈ WL := WL_in (tm2 (List.mem_of_getElem? (i := 186) (by decide +kernel))) rfl
theorem wk2_187 : Jvm.Cond.code ({ cls := "BooksMoved$Crates", name := "carryFrom", desc := "(II)I" } : Jvm.MethodName) prog_3_method_7_code (3 : Nat) (Option.some Jvm.ClassFile.FieldType.int) ∈ WL := WL_in (tm2 (List.mem_of_getElem? (i := 187) rfl)) rfl
theorem wk2_188 : Jvm.Cond.methodLink "BooksMovedLaw" (64 : Nat) ({ cls := "BooksMoved", name := "shelfOf", desc := "(II)I" } : Jvm.MethodName) ∈ WL := WL_in (tm2 (List.mem_of_getElem? (i := 188) (by decide +kernel))) rfl
theorem wk2_189 : Jvm.Cond.instanceMethod ({ cls := "BooksMoved", name := "shelfOf", desc := "(II)I" } : Jvm.MethodName) ∈ WL := WL_in (tm2 (List.mem_of_getElem? (i := 189) (by decide +kernel))) rfl
theorem wk2_190 : Jvm.Cond.selects "BooksMoved" ({ cls := "BooksMoved", name := "shelfOf", desc := "(II)I" } : Jvm.MethodName) ({ cls := "BooksMoved", name := "shelfOf", desc := "(II)I" } : Jvm.MethodName) ∈ WL := WL_in (tm2 (List.mem_of_getElem? (i := 190) (by decide +kernel))) rfl
theorem wk2_191 : Jvm.Cond.code ({ cls := "BooksMoved", name := "shelfOf", desc := "(II)I" } : Jvm.MethodName) prog_1_method_13_code (3 : Nat) (Option.some Jvm.ClassFile.FieldType.int) ∈ WL := WL_in (tm2 (List.mem_of_getElem? (i := 191) rfl)) rfl
theorem wk2_192 : Jvm.Cond.methodLink "BooksMoved" (132 : Nat) ({ cls := "BooksMoved$Shelves", name := "room", desc := "(I)I" } : Jvm.MethodName) ∈ WL := WL_in (tm2 (List.mem_of_getElem? (i := 192) (by decide +kernel))) rfl
theorem wk2_193 : Jvm.Cond.methodLink "BooksMovedLaw" (68 : Nat) ({ cls := "BooksMoved", name := "counts", desc := "(I)I" } : Jvm.MethodName) ∈ WL := WL_in (tm2 (List.mem_of_getElem? (i := 193) (by decide +kernel))) rfl
theorem wk2_194 : Jvm.Cond.instanceMethod ({ cls := "BooksMoved", name := "counts", desc := "(I)I" } : Jvm.MethodName) ∈ WL := WL_in (tm2 (List.mem_of_getElem? (i := 194) (by decide +kernel))) rfl
theorem wk2_195 : Jvm.Cond.selects "BooksMoved" ({ cls := "BooksMoved", name := "counts", desc := "(I)I" } : Jvm.MethodName) ({ cls := "BooksMoved", name := "counts", desc := "(I)I" } : Jvm.MethodName) ∈ WL := WL_in (tm2 (List.mem_of_getElem? (i := 195) (by decide +kernel))) rfl
theorem wk2_196 : Jvm.Cond.code ({ cls := "BooksMoved", name := "counts", desc := "(I)I" } : Jvm.MethodName) prog_1_method_14_code (2 : Nat) (Option.some Jvm.ClassFile.FieldType.int) ∈ WL := WL_in (tm2 (List.mem_of_getElem? (i := 196) rfl)) rfl
theorem wk2_197 : Jvm.Cond.methodLink "BooksMovedLaw" (72 : Nat) ({ cls := "BooksMoved", name := "way", desc := "(II)Z" } : Jvm.MethodName) ∈ WL := WL_in (tm2 (List.mem_of_getElem? (i := 197) (by decide +kernel))) rfl
theorem wk2_198 : Jvm.Cond.instanceMethod ({ cls := "BooksMoved", name := "way", desc := "(II)Z" } : Jvm.MethodName) ∈ WL := WL_in (tm2 (List.mem_of_getElem? (i := 198) (by decide +kernel))) rfl
theorem wk2_199 : Jvm.Cond.selects "BooksMoved" ({ cls := "BooksMoved", name := "way", desc := "(II)Z" } : Jvm.MethodName) ({ cls := "BooksMoved", name := "way", desc := "(II)Z" } : Jvm.MethodName) ∈ WL := WL_in (tm2 (List.mem_of_getElem? (i := 199) (by decide +kernel))) rfl
theorem wk2_200 : Jvm.Cond.code ({ cls := "BooksMoved", name := "way", desc := "(II)Z" } : Jvm.MethodName) prog_1_method_15_code (3 : Nat) (Option.some Jvm.ClassFile.FieldType.boolean) ∈ WL := WL_in (tm2 (List.mem_of_getElem? (i := 200) rfl)) rfl
theorem wk2_201 : Jvm.Cond.methodLink "BooksMovedLaw" (76 : Nat) ({ cls := "BooksMoved", name := "crate", desc := "(II)I" } : Jvm.MethodName) ∈ WL := WL_in (tm2 (List.mem_of_getElem? (i := 201) (by decide +kernel))) rfl
theorem wk2_202 : Jvm.Cond.instanceMethod ({ cls := "BooksMoved", name := "crate", desc := "(II)I" } : Jvm.MethodName) ∈ WL := WL_in (tm2 (List.mem_of_getElem? (i := 202) (by decide +kernel))) rfl
theorem wk2_203 : Jvm.Cond.selects "BooksMoved" ({ cls := "BooksMoved", name := "crate", desc := "(II)I" } : Jvm.MethodName) ({ cls := "BooksMoved", name := "crate", desc := "(II)I" } : Jvm.MethodName) ∈ WL := WL_in (tm2 (List.mem_of_getElem? (i := 203) (by decide +kernel))) rfl
theorem wk2_204 : Jvm.Cond.code ({ cls := "BooksMoved", name := "crate", desc := "(II)I" } : Jvm.MethodName) prog_1_method_16_code (3 : Nat) (Option.some Jvm.ClassFile.FieldType.int) ∈ WL := WL_in (tm2 (List.mem_of_getElem? (i := 204) rfl)) rfl
theorem wk2_205 : Jvm.Cond.methodLink "BooksMovedLaw" (80 : Nat) ({ cls := "BooksMoved", name := "meeting", desc := "(I)I" } : Jvm.MethodName) ∈ WL := WL_in (tm2 (List.mem_of_getElem? (i := 205) (by decide +kernel))) rfl
theorem wk2_206 : Jvm.Cond.instanceMethod ({ cls := "BooksMoved", name := "meeting", desc := "(I)I" } : Jvm.MethodName) ∈ WL := WL_in (tm2 (List.mem_of_getElem? (i := 206) (by decide +kernel))) rfl
theorem wk2_207 : Jvm.Cond.selects "BooksMoved" ({ cls := "BooksMoved", name := "meeting", desc := "(I)I" } : Jvm.MethodName) ({ cls := "BooksMoved", name := "meeting", desc := "(I)I" } : Jvm.MethodName) ∈ WL := WL_in (tm2 (List.mem_of_getElem? (i := 207) (by decide +kernel))) rfl
theorem wk2_208 : Jvm.Cond.code ({ cls := "BooksMoved", name := "meeting", desc := "(I)I" } : Jvm.MethodName) prog_1_method_17_code (2 : Nat) (Option.some Jvm.ClassFile.FieldType.int) ∈ WL := WL_in (tm2 (List.mem_of_getElem? (i := 208) rfl)) rfl
theorem wk2_209 : Jvm.Cond.methodLink "BooksMovedLaw" (84 : Nat) ({ cls := "BooksMoved", name := "where", desc := "(III)I" } : Jvm.MethodName) ∈ WL := WL_in (tm2 (List.mem_of_getElem? (i := 209) (by decide +kernel))) rfl
theorem wk2_210 : Jvm.Cond.instanceMethod ({ cls := "BooksMoved", name := "where", desc := "(III)I" } : Jvm.MethodName) ∈ WL := WL_in (tm2 (List.mem_of_getElem? (i := 210) (by decide +kernel))) rfl
theorem wk2_211 : Jvm.Cond.selects "BooksMoved" ({ cls := "BooksMoved", name := "where", desc := "(III)I" } : Jvm.MethodName) ({ cls := "BooksMoved", name := "where", desc := "(III)I" } : Jvm.MethodName) ∈ WL := WL_in (tm2 (List.mem_of_getElem? (i := 211) (by decide +kernel))) rfl
theorem wk2_212 : Jvm.Cond.code ({ cls := "BooksMoved", name := "where", desc := "(III)I" } : Jvm.MethodName) prog_1_method_18_code (4 : Nat) (Option.some Jvm.ClassFile.FieldType.int) ∈ WL := WL_in (tm2 (List.mem_of_getElem? (i := 212) rfl)) rfl
theorem wk2_213 : Jvm.Cond.constant "BooksMoved" (169 : Nat) (100000 : Int32) ∈ WL := WL_in (tm2 (List.mem_of_getElem? (i := 213) (by decide +kernel))) rfl
theorem wk2_214 : Jvm.Cond.methodLink "BooksMoved" (170 : Nat) ({ cls := "BooksMoved$Crates", name := "stageOf", desc := "(II)I" } : Jvm.MethodName) ∈ WL := WL_in (tm2 (List.mem_of_getElem? (i := 214) (by decide +kernel))) rfl
theorem wk2_215 : Jvm.Cond.instanceMethod ({ cls := "BooksMoved$Crates", name := "stageOf", desc := "(II)I" } : Jvm.MethodName) ∈ WL := WL_in (tm2 (List.mem_of_getElem? (i := 215) (by decide +kernel))) rfl
theorem wk2_216 : Jvm.Cond.selects "BooksMoved$Crates" ({ cls := "BooksMoved$Crates", name := "stageOf", desc := "(II)I" } : Jvm.MethodName) ({ cls := "BooksMoved$Crates", name := "stageOf", desc := "(II)I" } : Jvm.MethodName) ∈ WL := WL_in (tm2 (List.mem_of_getElem? (i := 216) (by decide +kernel))) rfl
theorem wk2_217 : Jvm.Cond.code ({ cls := "BooksMoved$Crates", name := "stageOf", desc := "(II)I" } : Jvm.MethodName) prog_3_method_4_code (4 : Nat) (Option.some Jvm.ClassFile.FieldType.int) ∈ WL := WL_in (tm2 (List.mem_of_getElem? (i := 217) rfl)) rfl
theorem wk2_218 : Jvm.Cond.methodLink "BooksMoved" (174 : Nat) ({ cls := "BooksMoved$Crates", name := "readerHas", desc := "(II)I" } : Jvm.MethodName) ∈ WL := WL_in (tm2 (List.mem_of_getElem? (i := 218) (by decide +kernel))) rfl
theorem wk2_219 : Jvm.Cond.instanceMethod ({ cls := "BooksMoved$Crates", name := "readerHas", desc := "(II)I" } : Jvm.MethodName) ∈ WL := WL_in (tm2 (List.mem_of_getElem? (i := 219) (by decide +kernel))) rfl
theorem wk2_220 : Jvm.Cond.selects "BooksMoved$Crates" ({ cls := "BooksMoved$Crates", name := "readerHas", desc := "(II)I" } : Jvm.MethodName) ({ cls := "BooksMoved$Crates", name := "readerHas", desc := "(II)I" } : Jvm.MethodName) ∈ WL := WL_in (tm2 (List.mem_of_getElem? (i := 220) (by decide +kernel))) rfl
theorem wk2_221 : Jvm.Cond.code ({ cls := "BooksMoved$Crates", name := "readerHas", desc := "(II)I" } : Jvm.MethodName) prog_3_method_5_code (5 : Nat) (Option.some Jvm.ClassFile.FieldType.int) ∈ WL := WL_in (tm2 (List.mem_of_getElem? (i := 221) rfl)) rfl
theorem wk2_222 : Jvm.Cond.methodLink "BooksMovedLaw" (88 : Nat) ({ cls := "BooksMoved", name := "row", desc := "()I" } : Jvm.MethodName) ∈ WL := WL_in (tm2 (List.mem_of_getElem? (i := 222) (by decide +kernel))) rfl
theorem wk2_223 : Jvm.Cond.instanceMethod ({ cls := "BooksMoved", name := "row", desc := "()I" } : Jvm.MethodName) ∈ WL := WL_in (tm2 (List.mem_of_getElem? (i := 223) (by decide +kernel))) rfl
theorem wk2_224 : Jvm.Cond.selects "BooksMoved" ({ cls := "BooksMoved", name := "row", desc := "()I" } : Jvm.MethodName) ({ cls := "BooksMoved", name := "row", desc := "()I" } : Jvm.MethodName) ∈ WL := WL_in (tm2 (List.mem_of_getElem? (i := 224) (by decide +kernel))) rfl
theorem wk2_225 : Jvm.Cond.code ({ cls := "BooksMoved", name := "row", desc := "()I" } : Jvm.MethodName) prog_1_method_19_code (1 : Nat) (Option.some Jvm.ClassFile.FieldType.int) ∈ WL := WL_in (tm2 (List.mem_of_getElem? (i := 225) rfl)) rfl
theorem wk2_226 : Jvm.Cond.methodLink "BooksMoved" (180 : Nat) ({ cls := "BooksMoved$Row", name := "fill", desc := "([II[I)V" } : Jvm.MethodName) ∈ WL := WL_in (tm2 (List.mem_of_getElem? (i := 226) (by decide +kernel))) rfl
theorem wk2_227 : Jvm.Cond.instanceMethod ({ cls := "BooksMoved$Row", name := "fill", desc := "([II[I)V" } : Jvm.MethodName) ∈ WL := WL_in (tm2 (List.mem_of_getElem? (i := 227) (by decide +kernel))) rfl
theorem wk2_228 : Jvm.Cond.selects "BooksMoved$Row" ({ cls := "BooksMoved$Row", name := "fill", desc := "([II[I)V" } : Jvm.MethodName) ({ cls := "BooksMoved$Row", name := "fill", desc := "([II[I)V" } : Jvm.MethodName) ∈ WL := WL_in (tm2 (List.mem_of_getElem? (i := 228) (by decide +kernel))) rfl
theorem wk2_229 : Jvm.Cond.code ({ cls := "BooksMoved$Row", name := "fill", desc := "([II[I)V" } : Jvm.MethodName) prog_5_method_3_code (5 : Nat) (Option.none : Option Jvm.ClassFile.FieldType) ∈ WL := WL_in (tm2 (List.mem_of_getElem? (i := 229) rfl)) rfl
theorem wk2_230 : Jvm.Cond.methodLink "BooksMovedLaw" (92 : Nat) ({ cls := "BooksMoved", name := "at", desc := "(I)I" } : Jvm.MethodName) ∈ WL := WL_in (tm2 (List.mem_of_getElem? (i := 230) (by decide +kernel))) rfl
theorem wk2_231 : Jvm.Cond.instanceMethod ({ cls := "BooksMoved", name := "at", desc := "(I)I" } : Jvm.MethodName) ∈ WL := WL_in (tm2 (List.mem_of_getElem? (i := 231) (by decide +kernel))) rfl
theorem wk2_232 : Jvm.Cond.selects "BooksMoved" ({ cls := "BooksMoved", name := "at", desc := "(I)I" } : Jvm.MethodName) ({ cls := "BooksMoved", name := "at", desc := "(I)I" } : Jvm.MethodName) ∈ WL := WL_in (tm2 (List.mem_of_getElem? (i := 232) (by decide +kernel))) rfl
theorem wk2_233 : Jvm.Cond.code ({ cls := "BooksMoved", name := "at", desc := "(I)I" } : Jvm.MethodName) prog_1_method_20_code (2 : Nat) (Option.some Jvm.ClassFile.FieldType.int) ∈ WL := WL_in (tm2 (List.mem_of_getElem? (i := 233) rfl)) rfl
theorem wk2_234 : Jvm.Cond.methodLink "BooksMoved" (185 : Nat) ({ cls := "BooksMoved$Row", name := "has", desc := "(I)Z" } : Jvm.MethodName) ∈ WL := WL_in (tm2 (List.mem_of_getElem? (i := 234) (by decide +kernel))) rfl
theorem wk2_235 : Jvm.Cond.instanceMethod ({ cls := "BooksMoved$Row", name := "has", desc := "(I)Z" } : Jvm.MethodName) ∈ WL := WL_in (tm2 (List.mem_of_getElem? (i := 235) (by decide +kernel))) rfl
theorem wk2_236 : Jvm.Cond.selects "BooksMoved$Row" ({ cls := "BooksMoved$Row", name := "has", desc := "(I)Z" } : Jvm.MethodName) ({ cls := "BooksMoved$Row", name := "has", desc := "(I)Z" } : Jvm.MethodName) ∈ WL := WL_in (tm2 (List.mem_of_getElem? (i := 236) (by decide +kernel))) rfl
theorem wk2_237 : Jvm.Cond.code ({ cls := "BooksMoved$Row", name := "has", desc := "(I)Z" } : Jvm.MethodName) prog_5_method_2_code (2 : Nat) (Option.some Jvm.ClassFile.FieldType.boolean) ∈ WL := WL_in (tm2 (List.mem_of_getElem? (i := 237) rfl)) rfl
theorem wk2_239 : Jvm.Cond.methodLink "BooksMovedLaw" (96 : Nat) ({ cls := "BooksMoved", name := "misplace", desc := "(II)Z" } : Jvm.MethodName) ∈ WL := WL_in (tm2 (List.mem_of_getElem? (i := 239) (by decide +kernel))) rfl
theorem wk3_0 : Jvm.Cond.instanceMethod ({ cls := "BooksMoved", name := "misplace", desc := "(II)Z" } : Jvm.MethodName) ∈ WL := WL_in (tm3 (List.mem_of_getElem? (i := 0) (by decide +kernel))) rfl
theorem wk3_1 : Jvm.Cond.selects "BooksMoved" ({ cls := "BooksMoved", name := "misplace", desc := "(II)Z" } : Jvm.MethodName) ({ cls := "BooksMoved", name := "misplace", desc := "(II)Z" } : Jvm.MethodName) ∈ WL := WL_in (tm3 (List.mem_of_getElem? (i := 1) (by decide +kernel))) rfl
theorem wk3_2 : Jvm.Cond.code ({ cls := "BooksMoved", name := "misplace", desc := "(II)Z" } : Jvm.MethodName) prog_1_method_21_code (3 : Nat) (Option.some Jvm.ClassFile.FieldType.boolean) ∈ WL := WL_in (tm3 (List.mem_of_getElem? (i := 2) rfl)) rfl
theorem wk3_3 : Jvm.Cond.methodLink "BooksMoved" (189 : Nat) ({ cls := "BooksMoved$Row", name := "carry", desc := "(II)V" } : Jvm.MethodName) ∈ WL := WL_in (tm3 (List.mem_of_getElem? (i := 3) (by decide +kernel))) rfl
theorem wk3_4 : Jvm.Cond.instanceMethod ({ cls := "BooksMoved$Row", name := "carry", desc := "(II)V" } : Jvm.MethodName) ∈ WL := WL_in (tm3 (List.mem_of_getElem? (i := 4) (by decide +kernel))) rfl
theorem wk3_5 : Jvm.Cond.selects "BooksMoved$Row" ({ cls := "BooksMoved$Row", name := "carry", desc := "(II)V" } : Jvm.MethodName) ({ cls := "BooksMoved$Row", name := "carry", desc := "(II)V" } : Jvm.MethodName) ∈ WL := WL_in (tm3 (List.mem_of_getElem? (i := 5) (by decide +kernel))) rfl
theorem wk3_6 : Jvm.Cond.code ({ cls := "BooksMoved$Row", name := "carry", desc := "(II)V" } : Jvm.MethodName) prog_5_method_4_code (5 : Nat) (Option.none : Option Jvm.ClassFile.FieldType) ∈ WL := WL_in (tm3 (List.mem_of_getElem? (i := 6) rfl)) rfl
theorem wk3_7 : Jvm.Cond.methodLink "BooksMovedLaw" (100 : Nat) ({ cls := "BooksMoved", name := "takenOut", desc := "()I" } : Jvm.MethodName) ∈ WL := WL_in (tm3 (List.mem_of_getElem? (i := 7) (by decide +kernel))) rfl
theorem wk3_8 : Jvm.Cond.instanceMethod ({ cls := "BooksMoved", name := "takenOut", desc := "()I" } : Jvm.MethodName) ∈ WL := WL_in (tm3 (List.mem_of_getElem? (i := 8) (by decide +kernel))) rfl
theorem wk3_9 : Jvm.Cond.selects "BooksMoved" ({ cls := "BooksMoved", name := "takenOut", desc := "()I" } : Jvm.MethodName) ({ cls := "BooksMoved", name := "takenOut", desc := "()I" } : Jvm.MethodName) ∈ WL := WL_in (tm3 (List.mem_of_getElem? (i := 9) (by decide +kernel))) rfl
theorem wk3_10 : Jvm.Cond.code ({ cls := "BooksMoved", name := "takenOut", desc := "()I" } : Jvm.MethodName) prog_1_method_22_code (1 : Nat) (Option.some Jvm.ClassFile.FieldType.int) ∈ WL := WL_in (tm3 (List.mem_of_getElem? (i := 10) rfl)) rfl
theorem wk3_11 : Jvm.Cond.methodLink "BooksMoved" (193 : Nat) ({ cls := "BooksMoved", name := "lookThrough", desc := "()V" } : Jvm.MethodName) ∈ WL := WL_in (tm3 (List.mem_of_getElem? (i := 11) (by decide +kernel))) rfl
theorem wk3_13 : Jvm.Cond.instanceMethod ({ cls := "BooksMoved", name := "lookThrough", desc := "()V" } : Jvm.MethodName) ∈ WL := WL_in (tm3 (List.mem_of_getElem? (i := 13) (by decide +kernel))) rfl
theorem wk3_14 : Jvm.Cond.code ({ cls := "BooksMoved", name := "lookThrough", desc := "()V" } : Jvm.MethodName) prog_1_method_30_code (1 : Nat) (Option.none : Option Jvm.ClassFile.FieldType) ∈ WL := WL_in (tm3 (List.mem_of_getElem? (i := 14) rfl)) rfl
theorem wk3_15 : Jvm.Cond.methodLink "BooksMoved" (217 : Nat) ({ cls := "BooksMoved$Row", name := "findOuts", desc := "(LBooksMoved$Books;I)V" } : Jvm.MethodName) ∈ WL := WL_in (tm3 (List.mem_of_getElem? (i := 15) (by decide +kernel))) rfl
theorem wk3_16 : Jvm.Cond.instanceMethod ({ cls := "BooksMoved$Row", name := "findOuts", desc := "(LBooksMoved$Books;I)V" } : Jvm.MethodName) ∈ WL := WL_in (tm3 (List.mem_of_getElem? (i := 16) (by decide +kernel))) rfl
theorem wk3_17 : Jvm.Cond.selects "BooksMoved$Row" ({ cls := "BooksMoved$Row", name := "findOuts", desc := "(LBooksMoved$Books;I)V" } : Jvm.MethodName) ({ cls := "BooksMoved$Row", name := "findOuts", desc := "(LBooksMoved$Books;I)V" } : Jvm.MethodName) ∈ WL := WL_in (tm3 (List.mem_of_getElem? (i := 17) (by decide +kernel))) rfl
theorem wk3_18 : Jvm.Cond.code ({ cls := "BooksMoved$Row", name := "findOuts", desc := "(LBooksMoved$Books;I)V" } : Jvm.MethodName) prog_5_method_5_code (8 : Nat) (Option.none : Option Jvm.ClassFile.FieldType) ∈ WL := WL_in (tm3 (List.mem_of_getElem? (i := 18) rfl)) rfl
theorem wk3_19 : Jvm.Cond.methodLink "BooksMoved$Row" (36 : Nat) ({ cls := "BooksMoved$Row", name := "mostBehind", desc := "(ILBooksMoved$Books;I)I" } : Jvm.MethodName) ∈ WL := WL_in (tm3 (List.mem_of_getElem? (i := 19) (by decide +kernel))) rfl
theorem wk3_21 : Jvm.Cond.instanceMethod ({ cls := "BooksMoved$Row", name := "mostBehind", desc := "(ILBooksMoved$Books;I)I" } : Jvm.MethodName) ∈ WL := WL_in (tm3 (List.mem_of_getElem? (i := 21) (by decide +kernel))) rfl
theorem wk3_22 : Jvm.Cond.code ({ cls := "BooksMoved$Row", name := "mostBehind", desc := "(ILBooksMoved$Books;I)I" } : Jvm.MethodName) prog_5_method_6_code (6 : Nat) (Option.some Jvm.ClassFile.FieldType.int) ∈ WL := WL_in (tm3 (List.mem_of_getElem? (i := 22) rfl)) rfl
theorem wk3_23 : Jvm.Cond.methodLink "BooksMoved$Row" (46 : Nat) ({ cls := "BooksMoved$Books", name := "sign", desc := "(III)I" } : Jvm.MethodName) ∈ WL := WL_in (tm3 (List.mem_of_getElem? (i := 23) (by decide +kernel))) rfl
theorem wk3_24 : Jvm.Cond.methodLink "BooksMoved$Row" (40 : Nat) ({ cls := "java/lang/Math", name := "max", desc := "(II)I" } : Jvm.MethodName) ∈ WL := WL_in (tm3 (List.mem_of_getElem? (i := 24) (by decide +kernel))) rfl
theorem wk3_25 : Jvm.Cond.methodLink "BooksMovedLaw" (104 : Nat) ({ cls := "BooksMoved", name := "isOut", desc := "(I)I" } : Jvm.MethodName) ∈ WL := WL_in (tm3 (List.mem_of_getElem? (i := 25) (by decide +kernel))) rfl
theorem wk3_26 : Jvm.Cond.instanceMethod ({ cls := "BooksMoved", name := "isOut", desc := "(I)I" } : Jvm.MethodName) ∈ WL := WL_in (tm3 (List.mem_of_getElem? (i := 26) (by decide +kernel))) rfl
theorem wk3_27 : Jvm.Cond.selects "BooksMoved" ({ cls := "BooksMoved", name := "isOut", desc := "(I)I" } : Jvm.MethodName) ({ cls := "BooksMoved", name := "isOut", desc := "(I)I" } : Jvm.MethodName) ∈ WL := WL_in (tm3 (List.mem_of_getElem? (i := 27) (by decide +kernel))) rfl
theorem wk3_28 : Jvm.Cond.code ({ cls := "BooksMoved", name := "isOut", desc := "(I)I" } : Jvm.MethodName) prog_1_method_23_code (2 : Nat) (Option.some Jvm.ClassFile.FieldType.int) ∈ WL := WL_in (tm3 (List.mem_of_getElem? (i := 28) rfl)) rfl
theorem wk3_29 : Jvm.Cond.methodLink "BooksMovedLaw" (108 : Nat) ({ cls := "BooksMoved", name := "drawn", desc := "(III)I" } : Jvm.MethodName) ∈ WL := WL_in (tm3 (List.mem_of_getElem? (i := 29) (by decide +kernel))) rfl
theorem wk3_30 : Jvm.Cond.instanceMethod ({ cls := "BooksMoved", name := "drawn", desc := "(III)I" } : Jvm.MethodName) ∈ WL := WL_in (tm3 (List.mem_of_getElem? (i := 30) (by decide +kernel))) rfl
theorem wk3_31 : Jvm.Cond.selects "BooksMoved" ({ cls := "BooksMoved", name := "drawn", desc := "(III)I" } : Jvm.MethodName) ({ cls := "BooksMoved", name := "drawn", desc := "(III)I" } : Jvm.MethodName) ∈ WL := WL_in (tm3 (List.mem_of_getElem? (i := 31) (by decide +kernel))) rfl
theorem wk3_32 : Jvm.Cond.code ({ cls := "BooksMoved", name := "drawn", desc := "(III)I" } : Jvm.MethodName) prog_1_method_24_code (6 : Nat) (Option.some Jvm.ClassFile.FieldType.int) ∈ WL := WL_in (tm3 (List.mem_of_getElem? (i := 32) rfl)) rfl
theorem wk3_33 : Jvm.Cond.methodLink "BooksMoved" (203 : Nat) ({ cls := "BooksMoved$Row", name := "draw", desc := "(IILBooksMoved$Books;I)I" } : Jvm.MethodName) ∈ WL := WL_in (tm3 (List.mem_of_getElem? (i := 33) (by decide +kernel))) rfl
theorem wk3_34 : Jvm.Cond.instanceMethod ({ cls := "BooksMoved$Row", name := "draw", desc := "(IILBooksMoved$Books;I)I" } : Jvm.MethodName) ∈ WL := WL_in (tm3 (List.mem_of_getElem? (i := 34) (by decide +kernel))) rfl
theorem wk3_35 : Jvm.Cond.selects "BooksMoved$Row" ({ cls := "BooksMoved$Row", name := "draw", desc := "(IILBooksMoved$Books;I)I" } : Jvm.MethodName) ({ cls := "BooksMoved$Row", name := "draw", desc := "(IILBooksMoved$Books;I)I" } : Jvm.MethodName) ∈ WL := WL_in (tm3 (List.mem_of_getElem? (i := 35) (by decide +kernel))) rfl
theorem wk3_36 : Jvm.Cond.code ({ cls := "BooksMoved$Row", name := "draw", desc := "(IILBooksMoved$Books;I)I" } : Jvm.MethodName) prog_5_method_7_code (11 : Nat) (Option.some Jvm.ClassFile.FieldType.int) ∈ WL := WL_in (tm3 (List.mem_of_getElem? (i := 36) rfl)) rfl
theorem wk3_37 : Jvm.Cond.constant "BooksMoved$Row" (52 : Nat) (1103515245 : Int32) ∈ WL := WL_in (tm3 (List.mem_of_getElem? (i := 37) (by decide +kernel))) rfl
theorem wk3_38 : Jvm.Cond.methodLink "BooksMovedLaw" (112 : Nat) ({ cls := "BooksMoved", name := "about", desc := "(I)I" } : Jvm.MethodName) ∈ WL := WL_in (tm3 (List.mem_of_getElem? (i := 38) (by decide +kernel))) rfl
theorem wk3_39 : Jvm.Cond.instanceMethod ({ cls := "BooksMoved", name := "about", desc := "(I)I" } : Jvm.MethodName) ∈ WL := WL_in (tm3 (List.mem_of_getElem? (i := 39) (by decide +kernel))) rfl
theorem wk3_40 : Jvm.Cond.selects "BooksMoved" ({ cls := "BooksMoved", name := "about", desc := "(I)I" } : Jvm.MethodName) ({ cls := "BooksMoved", name := "about", desc := "(I)I" } : Jvm.MethodName) ∈ WL := WL_in (tm3 (List.mem_of_getElem? (i := 40) (by decide +kernel))) rfl
theorem wk3_41 : Jvm.Cond.code ({ cls := "BooksMoved", name := "about", desc := "(I)I" } : Jvm.MethodName) prog_1_method_25_code (2 : Nat) (Option.some Jvm.ClassFile.FieldType.int) ∈ WL := WL_in (tm3 (List.mem_of_getElem? (i := 41) rfl)) rfl
theorem wk3_42 : Jvm.Cond.classLink "BooksMovedLaw" (10 : Nat) "BooksMovedModel" ∈ WL := WL_in (tm3 (List.mem_of_getElem? (i := 42) (by decide +kernel))) rfl
theorem wk3_43 : Jvm.Cond.instantiable "BooksMovedModel" (40 : Nat) ∈ WL := WL_in (tm3 (List.mem_of_getElem? (i := 43) (by decide +kernel))) rfl
theorem wk3_44 : Jvm.Cond.methodLink "BooksMovedLaw" (12 : Nat) ({ cls := "BooksMovedModel", name := "<init>", desc := "()V" } : Jvm.MethodName) ∈ WL := WL_in (tm3 (List.mem_of_getElem? (i := 44) (by decide +kernel))) rfl
theorem wk3_45 : Jvm.Cond.instanceMethod ({ cls := "BooksMovedModel", name := "<init>", desc := "()V" } : Jvm.MethodName) ∈ WL := WL_in (tm3 (List.mem_of_getElem? (i := 45) (by decide +kernel))) rfl
theorem wk3_46 : Jvm.Cond.code ({ cls := "BooksMovedModel", name := "<init>", desc := "()V" } : Jvm.MethodName) prog_9_method_1_code (1 : Nat) (Option.none : Option Jvm.ClassFile.FieldType) ∈ WL := WL_in (tm3 (List.mem_of_getElem? (i := 46) rfl)) rfl
theorem wk3_47 : Jvm.Cond.methodLink "BooksMovedModel" (1 : Nat) ({ cls := "java/lang/Object", name := "<init>", desc := "()V" } : Jvm.MethodName) ∈ WL := WL_in (tm3 (List.mem_of_getElem? (i := 47) (by decide +kernel))) rfl
theorem wk3_48 : Jvm.Cond.fieldLink "BooksMovedModel" (99 : Nat) "BooksMovedModel" "books" "I" ∈ WL := WL_in (tm3 (List.mem_of_getElem? (i := 48) (by decide +kernel))) rfl
theorem wk3_49 : Jvm.Cond.fieldLink "BooksMovedModel" (128 : Nat) "BooksMovedModel" "rule" "I" ∈ WL := WL_in (tm3 (List.mem_of_getElem? (i := 49) (by decide +kernel))) rfl
theorem wk3_50 : Jvm.Cond.fieldLink "BooksMovedModel" (7 : Nat) "BooksMovedModel" "limit" "I" ∈ WL := WL_in (tm3 (List.mem_of_getElem? (i := 50) (by decide +kernel))) rfl
theorem wk3_51 : Jvm.Cond.fieldLink "BooksMovedModel" (13 : Nat) "BooksMovedModel" "holds" "I" ∈ WL := WL_in (tm3 (List.mem_of_getElem? (i := 51) (by decide +kernel))) rfl
theorem wk3_52 : Jvm.Cond.fieldLink "BooksMovedModel" (16 : Nat) "BooksMovedModel" "number" "[I" ∈ WL := WL_in (tm3 (List.mem_of_getElem? (i := 52) (by decide +kernel))) rfl
theorem wk3_53 : Jvm.Cond.fieldLink "BooksMovedModel" (20 : Nat) "BooksMovedModel" "behind" "[I" ∈ WL := WL_in (tm3 (List.mem_of_getElem? (i := 53) (by decide +kernel))) rfl
theorem wk3_54 : Jvm.Cond.fieldLink "BooksMovedModel" (23 : Nat) "BooksMovedModel" "digits" "[I" ∈ WL := WL_in (tm3 (List.mem_of_getElem? (i := 54) (by decide +kernel))) rfl
theorem wk3_55 : Jvm.Cond.fieldLink "BooksMovedModel" (26 : Nat) "BooksMovedModel" "letters" "[I" ∈ WL := WL_in (tm3 (List.mem_of_getElem? (i := 55) (by decide +kernel))) rfl
theorem wk3_56 : Jvm.Cond.fieldLink "BooksMovedModel" (29 : Nat) "BooksMovedModel" "house" "[I" ∈ WL := WL_in (tm3 (List.mem_of_getElem? (i := 56) (by decide +kernel))) rfl
theorem wk3_57 : Jvm.Cond.fieldLink "BooksMovedModel" (32 : Nat) "BooksMovedModel" "thick" "[I" ∈ WL := WL_in (tm3 (List.mem_of_getElem? (i := 57) (by decide +kernel))) rfl
theorem wk3_58 : Jvm.Cond.fieldLink "BooksMovedModel" (35 : Nat) "BooksMovedModel" "tall" "[I" ∈ WL := WL_in (tm3 (List.mem_of_getElem? (i := 58) (by decide +kernel))) rfl
theorem wk3_59 : Jvm.Cond.fieldLink "BooksMovedModel" (148 : Nat) "BooksMovedModel" "shelves" "I" ∈ WL := WL_in (tm3 (List.mem_of_getElem? (i := 59) (by decide +kernel))) rfl
theorem wk3_60 : Jvm.Cond.fieldLink "BooksMovedModel" (38 : Nat) "BooksMovedModel" "longs" "[I" ∈ WL := WL_in (tm3 (List.mem_of_getElem? (i := 60) (by decide +kernel))) rfl
theorem wk3_61 : Jvm.Cond.fieldLink "BooksMovedModel" (41 : Nat) "BooksMovedModel" "growth" "[I" ∈ WL := WL_in (tm3 (List.mem_of_getElem? (i := 61) (by decide +kernel))) rfl
theorem wk3_62 : Jvm.Cond.fieldLink "BooksMovedModel" (44 : Nat) "BooksMovedModel" "way" "[I" ∈ WL := WL_in (tm3 (List.mem_of_getElem? (i := 62) (by decide +kernel))) rfl
theorem wk3_63 : Jvm.Cond.fieldLink "BooksMovedModel" (47 : Nat) "BooksMovedModel" "tape" "[I" ∈ WL := WL_in (tm3 (List.mem_of_getElem? (i := 63) (by decide +kernel))) rfl
theorem wk3_64 : Jvm.Cond.fieldLink "BooksMovedModel" (106 : Nat) "BooksMovedModel" "taped" "I" ∈ WL := WL_in (tm3 (List.mem_of_getElem? (i := 64) (by decide +kernel))) rfl
theorem wk3_65 : Jvm.Cond.fieldLink "BooksMovedModel" (50 : Nat) "BooksMovedModel" "wrongAt" "I" ∈ WL := WL_in (tm3 (List.mem_of_getElem? (i := 65) (by decide +kernel))) rfl
theorem wk3_66 : Jvm.Cond.fieldLink "BooksMovedModel" (113 : Nat) "BooksMovedModel" "at" "I" ∈ WL := WL_in (tm3 (List.mem_of_getElem? (i := 66) (by decide +kernel))) rfl
theorem wk3_67 : Jvm.Cond.fieldLink "BooksMovedModel" (53 : Nat) "BooksMovedModel" "order" "[I" ∈ WL := WL_in (tm3 (List.mem_of_getElem? (i := 67) (by decide +kernel))) rfl
theorem wk3_68 : Jvm.Cond.fieldLink "BooksMovedModel" (56 : Nat) "BooksMovedModel" "shelfOf" "[I" ∈ WL := WL_in (tm3 (List.mem_of_getElem? (i := 68) (by decide +kernel))) rfl
theorem wk3_69 : Jvm.Cond.fieldLink "BooksMovedModel" (59 : Nat) "BooksMovedModel" "placeOn" "[I" ∈ WL := WL_in (tm3 (List.mem_of_getElem? (i := 69) (by decide +kernel))) rfl
theorem wk3_70 : Jvm.Cond.fieldLink "BooksMovedModel" (62 : Nat) "BooksMovedModel" "has" "[I" ∈ WL := WL_in (tm3 (List.mem_of_getElem? (i := 70) (by decide +kernel))) rfl
theorem wk3_71 : Jvm.Cond.fieldLink "BooksMovedModel" (65 : Nat) "BooksMovedModel" "needs" "[I" ∈ WL := WL_in (tm3 (List.mem_of_getElem? (i := 71) (by decide +kernel))) rfl
theorem wk3_72 : Jvm.Cond.fieldLink "BooksMovedModel" (151 : Nat) "BooksMovedModel" "outsize" "I" ∈ WL := WL_in (tm3 (List.mem_of_getElem? (i := 72) (by decide +kernel))) rfl
theorem wk3_73 : Jvm.Cond.fieldLink "BooksMovedModel" (154 : Nat) "BooksMovedModel" "notLaid" "I" ∈ WL := WL_in (tm3 (List.mem_of_getElem? (i := 73) (by decide +kernel))) rfl
theorem wk3_74 : Jvm.Cond.fieldLink "BooksMovedModel" (163 : Nat) "BooksMovedModel" "crates" "I" ∈ WL := WL_in (tm3 (List.mem_of_getElem? (i := 74) (by decide +kernel))) rfl
theorem wk3_75 : Jvm.Cond.fieldLink "BooksMovedModel" (169 : Nat) "BooksMovedModel" "meets" "I" ∈ WL := WL_in (tm3 (List.mem_of_getElem? (i := 75) (by decide +kernel))) rfl
theorem wk3_76 : Jvm.Cond.fieldLink "BooksMovedModel" (172 : Nat) "BooksMovedModel" "meetsAt" "I" ∈ WL := WL_in (tm3 (List.mem_of_getElem? (i := 76) (by decide +kernel))) rfl
theorem wk3_77 : Jvm.Cond.fieldLink "BooksMovedModel" (68 : Nat) "BooksMovedModel" "firstOf" "[I" ∈ WL := WL_in (tm3 (List.mem_of_getElem? (i := 77) (by decide +kernel))) rfl
theorem wk3_78 : Jvm.Cond.fieldLink "BooksMovedModel" (71 : Nat) "BooksMovedModel" "many" "[I" ∈ WL := WL_in (tm3 (List.mem_of_getElem? (i := 78) (by decide +kernel))) rfl
theorem wk3_79 : Jvm.Cond.fieldLink "BooksMovedModel" (74 : Nat) "BooksMovedModel" "crateHouse" "[I" ∈ WL := WL_in (tm3 (List.mem_of_getElem? (i := 79) (by decide +kernel))) rfl
theorem wk3_80 : Jvm.Cond.fieldLink "BooksMovedModel" (77 : Nat) "BooksMovedModel" "begins" "[I" ∈ WL := WL_in (tm3 (List.mem_of_getElem? (i := 80) (by decide +kernel))) rfl
theorem wk3_81 : Jvm.Cond.fieldLink "BooksMovedModel" (80 : Nat) "BooksMovedModel" "ends" "[I" ∈ WL := WL_in (tm3 (List.mem_of_getElem? (i := 81) (by decide +kernel))) rfl
theorem wk3_82 : Jvm.Cond.fieldLink "BooksMovedModel" (83 : Nat) "BooksMovedModel" "crateOf" "[I" ∈ WL := WL_in (tm3 (List.mem_of_getElem? (i := 82) (by decide +kernel))) rfl
theorem wk3_83 : Jvm.Cond.fieldLink "BooksMovedModel" (176 : Nat) "BooksMovedModel" "rowLong" "I" ∈ WL := WL_in (tm3 (List.mem_of_getElem? (i := 83) (by decide +kernel))) rfl
theorem wk3_84 : Jvm.Cond.fieldLink "BooksMovedModel" (86 : Nat) "BooksMovedModel" "row" "[I" ∈ WL := WL_in (tm3 (List.mem_of_getElem? (i := 84) (by decide +kernel))) rfl
theorem wk3_85 : Jvm.Cond.fieldLink "BooksMovedModel" (89 : Nat) "BooksMovedModel" "stays" "[I" ∈ WL := WL_in (tm3 (List.mem_of_getElem? (i := 85) (by decide +kernel))) rfl
theorem wk3_86 : Jvm.Cond.fieldLink "BooksMovedModel" (92 : Nat) "BooksMovedModel" "isOut" "[Z" ∈ WL := WL_in (tm3 (List.mem_of_getElem? (i := 86) (by decide +kernel))) rfl
theorem wk3_87 : Jvm.Cond.fieldLink "BooksMovedModel" (96 : Nat) "BooksMovedModel" "lot" "[I" ∈ WL := WL_in (tm3 (List.mem_of_getElem? (i := 87) (by decide +kernel))) rfl
theorem wk3_169 : Jvm.Cond.methodLink "BooksMovedLaw" (17 : Nat) ({ cls := "BooksMovedModel", name := "feed", desc := "(IIIII)I" } : Jvm.MethodName) ∈ WL := WL_in (tm3 (List.mem_of_getElem? (i := 169) (by decide +kernel))) rfl
theorem wk3_170 : Jvm.Cond.instanceMethod ({ cls := "BooksMovedModel", name := "feed", desc := "(IIIII)I" } : Jvm.MethodName) ∈ WL := WL_in (tm3 (List.mem_of_getElem? (i := 170) (by decide +kernel))) rfl
theorem wk3_171 : Jvm.Cond.selects "BooksMovedModel" ({ cls := "BooksMovedModel", name := "feed", desc := "(IIIII)I" } : Jvm.MethodName) ({ cls := "BooksMovedModel", name := "feed", desc := "(IIIII)I" } : Jvm.MethodName) ∈ WL := WL_in (tm3 (List.mem_of_getElem? (i := 171) (by decide +kernel))) rfl
theorem wk3_172 : Jvm.Cond.code ({ cls := "BooksMovedModel", name := "feed", desc := "(IIIII)I" } : Jvm.MethodName) prog_9_method_5_code (6 : Nat) (Option.some Jvm.ClassFile.FieldType.int) ∈ WL := WL_in (tm3 (List.mem_of_getElem? (i := 172) rfl)) rfl
theorem wk3_173 : Jvm.Cond.methodLink "BooksMovedModel" (109 : Nat) ({ cls := "BooksMovedModel", name := "four", desc := "(I)V" } : Jvm.MethodName) ∈ WL := WL_in (tm3 (List.mem_of_getElem? (i := 173) (by decide +kernel))) rfl
theorem wk3_175 : Jvm.Cond.instanceMethod ({ cls := "BooksMovedModel", name := "four", desc := "(I)V" } : Jvm.MethodName) ∈ WL := WL_in (tm3 (List.mem_of_getElem? (i := 175) (by decide +kernel))) rfl
theorem wk3_176 : Jvm.Cond.code ({ cls := "BooksMovedModel", name := "four", desc := "(I)V" } : Jvm.MethodName) prog_9_method_4_code (3 : Nat) (Option.none : Option Jvm.ClassFile.FieldType) ∈ WL := WL_in (tm3 (List.mem_of_getElem? (i := 176) rfl)) rfl
theorem wk3_177 : Jvm.Cond.methodLink "BooksMovedLaw" (22 : Nat) ({ cls := "BooksMovedModel", name := "end", desc := "(I)I" } : Jvm.MethodName) ∈ WL := WL_in (tm3 (List.mem_of_getElem? (i := 177) (by decide +kernel))) rfl
theorem wk3_178 : Jvm.Cond.instanceMethod ({ cls := "BooksMovedModel", name := "end", desc := "(I)I" } : Jvm.MethodName) ∈ WL := WL_in (tm3 (List.mem_of_getElem? (i := 178) (by decide +kernel))) rfl
theorem wk3_179 : Jvm.Cond.selects "BooksMovedModel" ({ cls := "BooksMovedModel", name := "end", desc := "(I)I" } : Jvm.MethodName) ({ cls := "BooksMovedModel", name := "end", desc := "(I)I" } : Jvm.MethodName) ∈ WL := WL_in (tm3 (List.mem_of_getElem? (i := 179) (by decide +kernel))) rfl
theorem wk3_180 : Jvm.Cond.code ({ cls := "BooksMovedModel", name := "end", desc := "(I)I" } : Jvm.MethodName) prog_9_method_6_code (2 : Nat) (Option.some Jvm.ClassFile.FieldType.int) ∈ WL := WL_in (tm3 (List.mem_of_getElem? (i := 180) rfl)) rfl
theorem wk3_181 : Jvm.Cond.methodLink "BooksMovedModel" (102 : Nat) ({ cls := "BooksMovedModel", name := "isIn", desc := "(III)Z" } : Jvm.MethodName) ∈ WL := WL_in (tm3 (List.mem_of_getElem? (i := 181) (by decide +kernel))) rfl
theorem wk3_182 : Jvm.Cond.static ({ cls := "BooksMovedModel", name := "isIn", desc := "(III)Z" } : Jvm.MethodName) ∈ WL := WL_in (tm3 (List.mem_of_getElem? (i := 182) (by decide +kernel))) rfl
theorem wk3_183 : Jvm.Cond.code ({ cls := "BooksMovedModel", name := "isIn", desc := "(III)Z" } : Jvm.MethodName) prog_9_method_2_code (3 : Nat) (Option.some Jvm.ClassFile.FieldType.boolean) ∈ WL := WL_in (tm3 (List.mem_of_getElem? (i := 183) rfl)) rfl
theorem wk3_184 : Jvm.Cond.methodLink "BooksMovedLaw" (27 : Nat) ({ cls := "BooksMovedModel", name := "book", desc := "(III)I" } : Jvm.MethodName) ∈ WL := WL_in (tm3 (List.mem_of_getElem? (i := 184) (by decide +kernel))) rfl
theorem wk3_185 : Jvm.Cond.instanceMethod ({ cls := "BooksMovedModel", name := "book", desc := "(III)I" } : Jvm.MethodName) ∈ WL := WL_in (tm3 (List.mem_of_getElem? (i := 185) (by decide +kernel))) rfl
theorem wk3_186 : Jvm.Cond.selects "BooksMovedModel" ({ cls := "BooksMovedModel", name := "book", desc := "(III)I" } : Jvm.MethodName) ({ cls := "BooksMovedModel", name := "book", desc := "(III)I" } : Jvm.MethodName) ∈ WL := WL_in (tm3 (List.mem_of_getElem? (i := 186) (by decide +kernel))) rfl
theorem wk3_187 : Jvm.Cond.code ({ cls := "BooksMovedModel", name := "book", desc := "(III)I" } : Jvm.MethodName) prog_9_method_10_code (5 : Nat) (Option.some Jvm.ClassFile.FieldType.int) ∈ WL := WL_in (tm3 (List.mem_of_getElem? (i := 187) rfl)) rfl
theorem wk3_188 : Jvm.Cond.methodLink "BooksMovedModel" (124 : Nat) ({ cls := "BooksMovedModel", name := "isMark", desc := "(I)Z" } : Jvm.MethodName) ∈ WL := WL_in (tm3 (List.mem_of_getElem? (i := 188) (by decide +kernel))) rfl
theorem wk3_190 : Jvm.Cond.instanceMethod ({ cls := "BooksMovedModel", name := "isMark", desc := "(I)Z" } : Jvm.MethodName) ∈ WL := WL_in (tm3 (List.mem_of_getElem? (i := 190) (by decide +kernel))) rfl
theorem wk3_191 : Jvm.Cond.code ({ cls := "BooksMovedModel", name := "isMark", desc := "(I)Z" } : Jvm.MethodName) prog_9_method_9_code (5 : Nat) (Option.some Jvm.ClassFile.FieldType.boolean) ∈ WL := WL_in (tm3 (List.mem_of_getElem? (i := 191) rfl)) rfl
theorem wk3_192 : Jvm.Cond.methodLink "BooksMovedModel" (120 : Nat) ({ cls := "BooksMovedModel", name := "digitsHere", desc := "()I" } : Jvm.MethodName) ∈ WL := WL_in (tm3 (List.mem_of_getElem? (i := 192) (by decide +kernel))) rfl
theorem wk3_194 : Jvm.Cond.instanceMethod ({ cls := "BooksMovedModel", name := "digitsHere", desc := "()I" } : Jvm.MethodName) ∈ WL := WL_in (tm3 (List.mem_of_getElem? (i := 194) (by decide +kernel))) rfl
theorem wk3_195 : Jvm.Cond.code ({ cls := "BooksMovedModel", name := "digitsHere", desc := "()I" } : Jvm.MethodName) prog_9_method_8_code (3 : Nat) (Option.some Jvm.ClassFile.FieldType.int) ∈ WL := WL_in (tm3 (List.mem_of_getElem? (i := 195) rfl)) rfl
theorem wk3_196 : Jvm.Cond.methodLink "BooksMovedModel" (116 : Nat) ({ cls := "BooksMovedModel", name := "see", desc := "(I)I" } : Jvm.MethodName) ∈ WL := WL_in (tm3 (List.mem_of_getElem? (i := 196) (by decide +kernel))) rfl
theorem wk3_198 : Jvm.Cond.instanceMethod ({ cls := "BooksMovedModel", name := "see", desc := "(I)I" } : Jvm.MethodName) ∈ WL := WL_in (tm3 (List.mem_of_getElem? (i := 198) (by decide +kernel))) rfl
theorem wk3_199 : Jvm.Cond.code ({ cls := "BooksMovedModel", name := "see", desc := "(I)I" } : Jvm.MethodName) prog_9_method_7_code (2 : Nat) (Option.some Jvm.ClassFile.FieldType.int) ∈ WL := WL_in (tm3 (List.mem_of_getElem? (i := 199) rfl)) rfl
theorem wk3_200 : Jvm.Cond.methodLink "BooksMovedLaw" (32 : Nat) ({ cls := "BooksMovedModel", name := "wrong", desc := "()I" } : Jvm.MethodName) ∈ WL := WL_in (tm3 (List.mem_of_getElem? (i := 200) (by decide +kernel))) rfl
theorem wk3_201 : Jvm.Cond.instanceMethod ({ cls := "BooksMovedModel", name := "wrong", desc := "()I" } : Jvm.MethodName) ∈ WL := WL_in (tm3 (List.mem_of_getElem? (i := 201) (by decide +kernel))) rfl
theorem wk3_202 : Jvm.Cond.selects "BooksMovedModel" ({ cls := "BooksMovedModel", name := "wrong", desc := "()I" } : Jvm.MethodName) ({ cls := "BooksMovedModel", name := "wrong", desc := "()I" } : Jvm.MethodName) ∈ WL := WL_in (tm3 (List.mem_of_getElem? (i := 202) (by decide +kernel))) rfl
theorem wk3_203 : Jvm.Cond.code ({ cls := "BooksMovedModel", name := "wrong", desc := "()I" } : Jvm.MethodName) prog_9_method_11_code (1 : Nat) (Option.some Jvm.ClassFile.FieldType.int) ∈ WL := WL_in (tm3 (List.mem_of_getElem? (i := 203) rfl)) rfl
theorem wk3_204 : Jvm.Cond.methodLink "BooksMovedLaw" (37 : Nat) ({ cls := "BooksMovedModel", name := "rule", desc := "(I)Z" } : Jvm.MethodName) ∈ WL := WL_in (tm3 (List.mem_of_getElem? (i := 204) (by decide +kernel))) rfl
theorem wk3_205 : Jvm.Cond.instanceMethod ({ cls := "BooksMovedModel", name := "rule", desc := "(I)Z" } : Jvm.MethodName) ∈ WL := WL_in (tm3 (List.mem_of_getElem? (i := 205) (by decide +kernel))) rfl
theorem wk3_206 : Jvm.Cond.selects "BooksMovedModel" ({ cls := "BooksMovedModel", name := "rule", desc := "(I)Z" } : Jvm.MethodName) ({ cls := "BooksMovedModel", name := "rule", desc := "(I)Z" } : Jvm.MethodName) ∈ WL := WL_in (tm3 (List.mem_of_getElem? (i := 206) (by decide +kernel))) rfl
theorem wk3_207 : Jvm.Cond.code ({ cls := "BooksMovedModel", name := "rule", desc := "(I)Z" } : Jvm.MethodName) prog_9_method_12_code (2 : Nat) (Option.some Jvm.ClassFile.FieldType.boolean) ∈ WL := WL_in (tm3 (List.mem_of_getElem? (i := 207) rfl)) rfl
theorem wk3_208 : Jvm.Cond.methodLink "BooksMovedLaw" (41 : Nat) ({ cls := "BooksMovedModel", name := "compare", desc := "(III)I" } : Jvm.MethodName) ∈ WL := WL_in (tm3 (List.mem_of_getElem? (i := 208) (by decide +kernel))) rfl
theorem wk3_209 : Jvm.Cond.instanceMethod ({ cls := "BooksMovedModel", name := "compare", desc := "(III)I" } : Jvm.MethodName) ∈ WL := WL_in (tm3 (List.mem_of_getElem? (i := 209) (by decide +kernel))) rfl
theorem wk3_210 : Jvm.Cond.selects "BooksMovedModel" ({ cls := "BooksMovedModel", name := "compare", desc := "(III)I" } : Jvm.MethodName) ({ cls := "BooksMovedModel", name := "compare", desc := "(III)I" } : Jvm.MethodName) ∈ WL := WL_in (tm3 (List.mem_of_getElem? (i := 210) (by decide +kernel))) rfl
theorem wk3_211 : Jvm.Cond.code ({ cls := "BooksMovedModel", name := "compare", desc := "(III)I" } : Jvm.MethodName) prog_9_method_16_code (4 : Nat) (Option.some Jvm.ClassFile.FieldType.int) ∈ WL := WL_in (tm3 (List.mem_of_getElem? (i := 211) rfl)) rfl
theorem wk3_212 : Jvm.Cond.methodLink "BooksMovedModel" (138 : Nat) ({ cls := "BooksMovedModel", name := "isBook", desc := "(I)Z" } : Jvm.MethodName) ∈ WL := WL_in (tm3 (List.mem_of_getElem? (i := 212) (by decide +kernel))) rfl
theorem wk3_214 : Jvm.Cond.instanceMethod ({ cls := "BooksMovedModel", name := "isBook", desc := "(I)Z" } : Jvm.MethodName) ∈ WL := WL_in (tm3 (List.mem_of_getElem? (i := 214) (by decide +kernel))) rfl
theorem wk3_215 : Jvm.Cond.code ({ cls := "BooksMovedModel", name := "isBook", desc := "(I)Z" } : Jvm.MethodName) prog_9_method_3_code (2 : Nat) (Option.some Jvm.ClassFile.FieldType.boolean) ∈ WL := WL_in (tm3 (List.mem_of_getElem? (i := 215) rfl)) rfl
theorem wk3_216 : Jvm.Cond.methodLink "BooksMovedModel" (141 : Nat) ({ cls := "BooksMovedModel", name := "against", desc := "(III)I" } : Jvm.MethodName) ∈ WL := WL_in (tm3 (List.mem_of_getElem? (i := 216) (by decide +kernel))) rfl
theorem wk3_218 : Jvm.Cond.instanceMethod ({ cls := "BooksMovedModel", name := "against", desc := "(III)I" } : Jvm.MethodName) ∈ WL := WL_in (tm3 (List.mem_of_getElem? (i := 218) (by decide +kernel))) rfl
theorem wk3_219 : Jvm.Cond.code ({ cls := "BooksMovedModel", name := "against", desc := "(III)I" } : Jvm.MethodName) prog_9_method_15_code (4 : Nat) (Option.some Jvm.ClassFile.FieldType.int) ∈ WL := WL_in (tm3 (List.mem_of_getElem? (i := 219) rfl)) rfl
theorem wk3_220 : Jvm.Cond.methodLink "BooksMovedModel" (131 : Nat) ({ cls := "BooksMovedModel", name := "sign", desc := "(II)I" } : Jvm.MethodName) ∈ WL := WL_in (tm3 (List.mem_of_getElem? (i := 220) (by decide +kernel))) rfl
theorem wk3_221 : Jvm.Cond.static ({ cls := "BooksMovedModel", name := "sign", desc := "(II)I" } : Jvm.MethodName) ∈ WL := WL_in (tm3 (List.mem_of_getElem? (i := 221) (by decide +kernel))) rfl
theorem wk3_222 : Jvm.Cond.code ({ cls := "BooksMovedModel", name := "sign", desc := "(II)I" } : Jvm.MethodName) prog_9_method_14_code (2 : Nat) (Option.some Jvm.ClassFile.FieldType.int) ∈ WL := WL_in (tm3 (List.mem_of_getElem? (i := 222) rfl)) rfl
theorem wk3_223 : Jvm.Cond.methodLink "BooksMovedModel" (135 : Nat) ({ cls := "BooksMovedModel", name := "keyOf", desc := "(II)I" } : Jvm.MethodName) ∈ WL := WL_in (tm3 (List.mem_of_getElem? (i := 223) (by decide +kernel))) rfl
theorem wk3_225 : Jvm.Cond.instanceMethod ({ cls := "BooksMovedModel", name := "keyOf", desc := "(II)I" } : Jvm.MethodName) ∈ WL := WL_in (tm3 (List.mem_of_getElem? (i := 225) (by decide +kernel))) rfl
theorem wk3_226 : Jvm.Cond.code ({ cls := "BooksMovedModel", name := "keyOf", desc := "(II)I" } : Jvm.MethodName) prog_9_method_13_code (5 : Nat) (Option.some Jvm.ClassFile.FieldType.int) ∈ WL := WL_in (tm3 (List.mem_of_getElem? (i := 226) rfl)) rfl
theorem wk3_227 : Jvm.Cond.methodLink "BooksMovedLaw" (46 : Nat) ({ cls := "BooksMovedModel", name := "ordered", desc := "(II)I" } : Jvm.MethodName) ∈ WL := WL_in (tm3 (List.mem_of_getElem? (i := 227) (by decide +kernel))) rfl
theorem wk3_228 : Jvm.Cond.instanceMethod ({ cls := "BooksMovedModel", name := "ordered", desc := "(II)I" } : Jvm.MethodName) ∈ WL := WL_in (tm3 (List.mem_of_getElem? (i := 228) (by decide +kernel))) rfl
theorem wk3_229 : Jvm.Cond.selects "BooksMovedModel" ({ cls := "BooksMovedModel", name := "ordered", desc := "(II)I" } : Jvm.MethodName) ({ cls := "BooksMovedModel", name := "ordered", desc := "(II)I" } : Jvm.MethodName) ∈ WL := WL_in (tm3 (List.mem_of_getElem? (i := 229) (by decide +kernel))) rfl
theorem wk3_230 : Jvm.Cond.code ({ cls := "BooksMovedModel", name := "ordered", desc := "(II)I" } : Jvm.MethodName) prog_9_method_18_code (3 : Nat) (Option.some Jvm.ClassFile.FieldType.int) ∈ WL := WL_in (tm3 (List.mem_of_getElem? (i := 230) rfl)) rfl
theorem wk3_231 : Jvm.Cond.methodLink "BooksMovedModel" (145 : Nat) ({ cls := "BooksMovedModel", name := "sort", desc := "(I)V" } : Jvm.MethodName) ∈ WL := WL_in (tm3 (List.mem_of_getElem? (i := 231) (by decide +kernel))) rfl
theorem wk3_233 : Jvm.Cond.instanceMethod ({ cls := "BooksMovedModel", name := "sort", desc := "(I)V" } : Jvm.MethodName) ∈ WL := WL_in (tm3 (List.mem_of_getElem? (i := 233) (by decide +kernel))) rfl
theorem wk3_234 : Jvm.Cond.code ({ cls := "BooksMovedModel", name := "sort", desc := "(I)V" } : Jvm.MethodName) prog_9_method_17_code (4 : Nat) (Option.none : Option Jvm.ClassFile.FieldType) ∈ WL := WL_in (tm3 (List.mem_of_getElem? (i := 234) rfl)) rfl
theorem wk3_235 : Jvm.Cond.methodLink "BooksMovedLaw" (50 : Nat) ({ cls := "BooksMovedModel", name := "quarrels", desc := "()I" } : Jvm.MethodName) ∈ WL := WL_in (tm3 (List.mem_of_getElem? (i := 235) (by decide +kernel))) rfl
theorem wk3_236 : Jvm.Cond.instanceMethod ({ cls := "BooksMovedModel", name := "quarrels", desc := "()I" } : Jvm.MethodName) ∈ WL := WL_in (tm3 (List.mem_of_getElem? (i := 236) (by decide +kernel))) rfl
theorem wk3_237 : Jvm.Cond.selects "BooksMovedModel" ({ cls := "BooksMovedModel", name := "quarrels", desc := "()I" } : Jvm.MethodName) ({ cls := "BooksMovedModel", name := "quarrels", desc := "()I" } : Jvm.MethodName) ∈ WL := WL_in (tm3 (List.mem_of_getElem? (i := 237) (by decide +kernel))) rfl
theorem wk3_238 : Jvm.Cond.code ({ cls := "BooksMovedModel", name := "quarrels", desc := "()I" } : Jvm.MethodName) prog_9_method_19_code (4 : Nat) (Option.some Jvm.ClassFile.FieldType.int) ∈ WL := WL_in (tm3 (List.mem_of_getElem? (i := 238) rfl)) rfl
theorem wk3_239 : Jvm.Cond.methodLink "BooksMovedLaw" (54 : Nat) ({ cls := "BooksMovedModel", name := "shelf", desc := "(I)I" } : Jvm.MethodName) ∈ WL := WL_in (tm3 (List.mem_of_getElem? (i := 239) (by decide +kernel))) rfl
theorem wk4_0 : Jvm.Cond.instanceMethod ({ cls := "BooksMovedModel", name := "shelf", desc := "(I)I" } : Jvm.MethodName) ∈ WL := WL_in (tm4 (List.mem_of_getElem? (i := 0) (by decide +kernel))) rfl
theorem wk4_1 : Jvm.Cond.selects "BooksMovedModel" ({ cls := "BooksMovedModel", name := "shelf", desc := "(I)I" } : Jvm.MethodName) ({ cls := "BooksMovedModel", name := "shelf", desc := "(I)I" } : Jvm.MethodName) ∈ WL := WL_in (tm4 (List.mem_of_getElem? (i := 1) (by decide +kernel))) rfl
theorem wk4_2 : Jvm.Cond.code ({ cls := "BooksMovedModel", name := "shelf", desc := "(I)I" } : Jvm.MethodName) prog_9_method_20_code (2 : Nat) (Option.some Jvm.ClassFile.FieldType.int) ∈ WL := WL_in (tm4 (List.mem_of_getElem? (i := 2) rfl)) rfl
theorem wk4_3 : Jvm.Cond.methodLink "BooksMovedLaw" (59 : Nat) ({ cls := "BooksMovedModel", name := "sizes", desc := "(II)Z" } : Jvm.MethodName) ∈ WL := WL_in (tm4 (List.mem_of_getElem? (i := 3) (by decide +kernel))) rfl
theorem wk4_4 : Jvm.Cond.instanceMethod ({ cls := "BooksMovedModel", name := "sizes", desc := "(II)Z" } : Jvm.MethodName) ∈ WL := WL_in (tm4 (List.mem_of_getElem? (i := 4) (by decide +kernel))) rfl
theorem wk4_5 : Jvm.Cond.selects "BooksMovedModel" ({ cls := "BooksMovedModel", name := "sizes", desc := "(II)Z" } : Jvm.MethodName) ({ cls := "BooksMovedModel", name := "sizes", desc := "(II)Z" } : Jvm.MethodName) ∈ WL := WL_in (tm4 (List.mem_of_getElem? (i := 5) (by decide +kernel))) rfl
theorem wk4_6 : Jvm.Cond.code ({ cls := "BooksMovedModel", name := "sizes", desc := "(II)Z" } : Jvm.MethodName) prog_9_method_21_code (3 : Nat) (Option.some Jvm.ClassFile.FieldType.boolean) ∈ WL := WL_in (tm4 (List.mem_of_getElem? (i := 6) rfl)) rfl
theorem wk4_7 : Jvm.Cond.methodLink "BooksMovedLaw" (63 : Nat) ({ cls := "BooksMovedModel", name := "laid", desc := "(II)I" } : Jvm.MethodName) ∈ WL := WL_in (tm4 (List.mem_of_getElem? (i := 7) (by decide +kernel))) rfl
theorem wk4_8 : Jvm.Cond.instanceMethod ({ cls := "BooksMovedModel", name := "laid", desc := "(II)I" } : Jvm.MethodName) ∈ WL := WL_in (tm4 (List.mem_of_getElem? (i := 8) (by decide +kernel))) rfl
theorem wk4_9 : Jvm.Cond.selects "BooksMovedModel" ({ cls := "BooksMovedModel", name := "laid", desc := "(II)I" } : Jvm.MethodName) ({ cls := "BooksMovedModel", name := "laid", desc := "(II)I" } : Jvm.MethodName) ∈ WL := WL_in (tm4 (List.mem_of_getElem? (i := 9) (by decide +kernel))) rfl
theorem wk4_10 : Jvm.Cond.code ({ cls := "BooksMovedModel", name := "laid", desc := "(II)I" } : Jvm.MethodName) prog_9_method_23_code (3 : Nat) (Option.some Jvm.ClassFile.FieldType.int) ∈ WL := WL_in (tm4 (List.mem_of_getElem? (i := 10) rfl)) rfl
theorem wk4_11 : Jvm.Cond.methodLink "BooksMovedModel" (157 : Nat) ({ cls := "BooksMovedModel", name := "lay", desc := "()V" } : Jvm.MethodName) ∈ WL := WL_in (tm4 (List.mem_of_getElem? (i := 11) (by decide +kernel))) rfl
theorem wk4_13 : Jvm.Cond.instanceMethod ({ cls := "BooksMovedModel", name := "lay", desc := "()V" } : Jvm.MethodName) ∈ WL := WL_in (tm4 (List.mem_of_getElem? (i := 13) (by decide +kernel))) rfl
theorem wk4_14 : Jvm.Cond.code ({ cls := "BooksMovedModel", name := "lay", desc := "()V" } : Jvm.MethodName) prog_9_method_22_code (5 : Nat) (Option.none : Option Jvm.ClassFile.FieldType) ∈ WL := WL_in (tm4 (List.mem_of_getElem? (i := 14) rfl)) rfl
theorem wk4_15 : Jvm.Cond.methodLink "BooksMovedLaw" (67 : Nat) ({ cls := "BooksMovedModel", name := "shelfOf", desc := "(II)I" } : Jvm.MethodName) ∈ WL := WL_in (tm4 (List.mem_of_getElem? (i := 15) (by decide +kernel))) rfl
theorem wk4_16 : Jvm.Cond.instanceMethod ({ cls := "BooksMovedModel", name := "shelfOf", desc := "(II)I" } : Jvm.MethodName) ∈ WL := WL_in (tm4 (List.mem_of_getElem? (i := 16) (by decide +kernel))) rfl
theorem wk4_17 : Jvm.Cond.selects "BooksMovedModel" ({ cls := "BooksMovedModel", name := "shelfOf", desc := "(II)I" } : Jvm.MethodName) ({ cls := "BooksMovedModel", name := "shelfOf", desc := "(II)I" } : Jvm.MethodName) ∈ WL := WL_in (tm4 (List.mem_of_getElem? (i := 17) (by decide +kernel))) rfl
theorem wk4_18 : Jvm.Cond.code ({ cls := "BooksMovedModel", name := "shelfOf", desc := "(II)I" } : Jvm.MethodName) prog_9_method_24_code (3 : Nat) (Option.some Jvm.ClassFile.FieldType.int) ∈ WL := WL_in (tm4 (List.mem_of_getElem? (i := 18) rfl)) rfl
theorem wk4_19 : Jvm.Cond.methodLink "BooksMovedLaw" (71 : Nat) ({ cls := "BooksMovedModel", name := "counts", desc := "(I)I" } : Jvm.MethodName) ∈ WL := WL_in (tm4 (List.mem_of_getElem? (i := 19) (by decide +kernel))) rfl
theorem wk4_20 : Jvm.Cond.instanceMethod ({ cls := "BooksMovedModel", name := "counts", desc := "(I)I" } : Jvm.MethodName) ∈ WL := WL_in (tm4 (List.mem_of_getElem? (i := 20) (by decide +kernel))) rfl
theorem wk4_21 : Jvm.Cond.selects "BooksMovedModel" ({ cls := "BooksMovedModel", name := "counts", desc := "(I)I" } : Jvm.MethodName) ({ cls := "BooksMovedModel", name := "counts", desc := "(I)I" } : Jvm.MethodName) ∈ WL := WL_in (tm4 (List.mem_of_getElem? (i := 21) (by decide +kernel))) rfl
theorem wk4_22 : Jvm.Cond.code ({ cls := "BooksMovedModel", name := "counts", desc := "(I)I" } : Jvm.MethodName) prog_9_method_25_code (2 : Nat) (Option.some Jvm.ClassFile.FieldType.int) ∈ WL := WL_in (tm4 (List.mem_of_getElem? (i := 22) rfl)) rfl
theorem wk4_23 : Jvm.Cond.methodLink "BooksMovedModel" (160 : Nat) ({ cls := "BooksMovedModel", name := "pack", desc := "()V" } : Jvm.MethodName) ∈ WL := WL_in (tm4 (List.mem_of_getElem? (i := 23) (by decide +kernel))) rfl
theorem wk4_25 : Jvm.Cond.instanceMethod ({ cls := "BooksMovedModel", name := "pack", desc := "()V" } : Jvm.MethodName) ∈ WL := WL_in (tm4 (List.mem_of_getElem? (i := 25) (by decide +kernel))) rfl
theorem wk4_26 : Jvm.Cond.code ({ cls := "BooksMovedModel", name := "pack", desc := "()V" } : Jvm.MethodName) prog_9_method_26_code (4 : Nat) (Option.none : Option Jvm.ClassFile.FieldType) ∈ WL := WL_in (tm4 (List.mem_of_getElem? (i := 26) rfl)) rfl
theorem wk4_27 : Jvm.Cond.methodLink "BooksMovedModel" (166 : Nat) ({ cls := "BooksMovedModel", name := "meet", desc := "()V" } : Jvm.MethodName) ∈ WL := WL_in (tm4 (List.mem_of_getElem? (i := 27) (by decide +kernel))) rfl
theorem wk4_29 : Jvm.Cond.instanceMethod ({ cls := "BooksMovedModel", name := "meet", desc := "()V" } : Jvm.MethodName) ∈ WL := WL_in (tm4 (List.mem_of_getElem? (i := 29) (by decide +kernel))) rfl
theorem wk4_30 : Jvm.Cond.code ({ cls := "BooksMovedModel", name := "meet", desc := "()V" } : Jvm.MethodName) prog_9_method_27_code (5 : Nat) (Option.none : Option Jvm.ClassFile.FieldType) ∈ WL := WL_in (tm4 (List.mem_of_getElem? (i := 30) rfl)) rfl
theorem wk4_31 : Jvm.Cond.methodLink "BooksMovedLaw" (75 : Nat) ({ cls := "BooksMovedModel", name := "way", desc := "(II)Z" } : Jvm.MethodName) ∈ WL := WL_in (tm4 (List.mem_of_getElem? (i := 31) (by decide +kernel))) rfl
theorem wk4_32 : Jvm.Cond.instanceMethod ({ cls := "BooksMovedModel", name := "way", desc := "(II)Z" } : Jvm.MethodName) ∈ WL := WL_in (tm4 (List.mem_of_getElem? (i := 32) (by decide +kernel))) rfl
theorem wk4_33 : Jvm.Cond.selects "BooksMovedModel" ({ cls := "BooksMovedModel", name := "way", desc := "(II)Z" } : Jvm.MethodName) ({ cls := "BooksMovedModel", name := "way", desc := "(II)Z" } : Jvm.MethodName) ∈ WL := WL_in (tm4 (List.mem_of_getElem? (i := 33) (by decide +kernel))) rfl
theorem wk4_34 : Jvm.Cond.code ({ cls := "BooksMovedModel", name := "way", desc := "(II)Z" } : Jvm.MethodName) prog_9_method_28_code (3 : Nat) (Option.some Jvm.ClassFile.FieldType.boolean) ∈ WL := WL_in (tm4 (List.mem_of_getElem? (i := 34) rfl)) rfl
theorem wk4_35 : Jvm.Cond.methodLink "BooksMovedLaw" (79 : Nat) ({ cls := "BooksMovedModel", name := "crate", desc := "(II)I" } : Jvm.MethodName) ∈ WL := WL_in (tm4 (List.mem_of_getElem? (i := 35) (by decide +kernel))) rfl
theorem wk4_36 : Jvm.Cond.instanceMethod ({ cls := "BooksMovedModel", name := "crate", desc := "(II)I" } : Jvm.MethodName) ∈ WL := WL_in (tm4 (List.mem_of_getElem? (i := 36) (by decide +kernel))) rfl
theorem wk4_37 : Jvm.Cond.selects "BooksMovedModel" ({ cls := "BooksMovedModel", name := "crate", desc := "(II)I" } : Jvm.MethodName) ({ cls := "BooksMovedModel", name := "crate", desc := "(II)I" } : Jvm.MethodName) ∈ WL := WL_in (tm4 (List.mem_of_getElem? (i := 37) (by decide +kernel))) rfl
theorem wk4_38 : Jvm.Cond.code ({ cls := "BooksMovedModel", name := "crate", desc := "(II)I" } : Jvm.MethodName) prog_9_method_29_code (3 : Nat) (Option.some Jvm.ClassFile.FieldType.int) ∈ WL := WL_in (tm4 (List.mem_of_getElem? (i := 38) rfl)) rfl
theorem wk4_39 : Jvm.Cond.methodLink "BooksMovedLaw" (83 : Nat) ({ cls := "BooksMovedModel", name := "meeting", desc := "(I)I" } : Jvm.MethodName) ∈ WL := WL_in (tm4 (List.mem_of_getElem? (i := 39) (by decide +kernel))) rfl
theorem wk4_40 : Jvm.Cond.instanceMethod ({ cls := "BooksMovedModel", name := "meeting", desc := "(I)I" } : Jvm.MethodName) ∈ WL := WL_in (tm4 (List.mem_of_getElem? (i := 40) (by decide +kernel))) rfl
theorem wk4_41 : Jvm.Cond.selects "BooksMovedModel" ({ cls := "BooksMovedModel", name := "meeting", desc := "(I)I" } : Jvm.MethodName) ({ cls := "BooksMovedModel", name := "meeting", desc := "(I)I" } : Jvm.MethodName) ∈ WL := WL_in (tm4 (List.mem_of_getElem? (i := 41) (by decide +kernel))) rfl
theorem wk4_42 : Jvm.Cond.code ({ cls := "BooksMovedModel", name := "meeting", desc := "(I)I" } : Jvm.MethodName) prog_9_method_30_code (2 : Nat) (Option.some Jvm.ClassFile.FieldType.int) ∈ WL := WL_in (tm4 (List.mem_of_getElem? (i := 42) rfl)) rfl
theorem wk4_43 : Jvm.Cond.methodLink "BooksMovedLaw" (87 : Nat) ({ cls := "BooksMovedModel", name := "where", desc := "(III)I" } : Jvm.MethodName) ∈ WL := WL_in (tm4 (List.mem_of_getElem? (i := 43) (by decide +kernel))) rfl
theorem wk4_44 : Jvm.Cond.instanceMethod ({ cls := "BooksMovedModel", name := "where", desc := "(III)I" } : Jvm.MethodName) ∈ WL := WL_in (tm4 (List.mem_of_getElem? (i := 44) (by decide +kernel))) rfl
theorem wk4_45 : Jvm.Cond.selects "BooksMovedModel" ({ cls := "BooksMovedModel", name := "where", desc := "(III)I" } : Jvm.MethodName) ({ cls := "BooksMovedModel", name := "where", desc := "(III)I" } : Jvm.MethodName) ∈ WL := WL_in (tm4 (List.mem_of_getElem? (i := 45) (by decide +kernel))) rfl
theorem wk4_46 : Jvm.Cond.code ({ cls := "BooksMovedModel", name := "where", desc := "(III)I" } : Jvm.MethodName) prog_9_method_31_code (7 : Nat) (Option.some Jvm.ClassFile.FieldType.int) ∈ WL := WL_in (tm4 (List.mem_of_getElem? (i := 46) rfl)) rfl
theorem wk4_47 : Jvm.Cond.constant "BooksMovedModel" (175 : Nat) (100000 : Int32) ∈ WL := WL_in (tm4 (List.mem_of_getElem? (i := 47) (by decide +kernel))) rfl
theorem wk4_48 : Jvm.Cond.methodLink "BooksMovedLaw" (91 : Nat) ({ cls := "BooksMovedModel", name := "row", desc := "()I" } : Jvm.MethodName) ∈ WL := WL_in (tm4 (List.mem_of_getElem? (i := 48) (by decide +kernel))) rfl
theorem wk4_49 : Jvm.Cond.instanceMethod ({ cls := "BooksMovedModel", name := "row", desc := "()I" } : Jvm.MethodName) ∈ WL := WL_in (tm4 (List.mem_of_getElem? (i := 49) (by decide +kernel))) rfl
theorem wk4_50 : Jvm.Cond.selects "BooksMovedModel" ({ cls := "BooksMovedModel", name := "row", desc := "()I" } : Jvm.MethodName) ({ cls := "BooksMovedModel", name := "row", desc := "()I" } : Jvm.MethodName) ∈ WL := WL_in (tm4 (List.mem_of_getElem? (i := 50) (by decide +kernel))) rfl
theorem wk4_51 : Jvm.Cond.code ({ cls := "BooksMovedModel", name := "row", desc := "()I" } : Jvm.MethodName) prog_9_method_32_code (2 : Nat) (Option.some Jvm.ClassFile.FieldType.int) ∈ WL := WL_in (tm4 (List.mem_of_getElem? (i := 51) rfl)) rfl
theorem wk4_52 : Jvm.Cond.methodLink "BooksMovedLaw" (95 : Nat) ({ cls := "BooksMovedModel", name := "at", desc := "(I)I" } : Jvm.MethodName) ∈ WL := WL_in (tm4 (List.mem_of_getElem? (i := 52) (by decide +kernel))) rfl
theorem wk4_53 : Jvm.Cond.instanceMethod ({ cls := "BooksMovedModel", name := "at", desc := "(I)I" } : Jvm.MethodName) ∈ WL := WL_in (tm4 (List.mem_of_getElem? (i := 53) (by decide +kernel))) rfl
theorem wk4_54 : Jvm.Cond.selects "BooksMovedModel" ({ cls := "BooksMovedModel", name := "at", desc := "(I)I" } : Jvm.MethodName) ({ cls := "BooksMovedModel", name := "at", desc := "(I)I" } : Jvm.MethodName) ∈ WL := WL_in (tm4 (List.mem_of_getElem? (i := 54) (by decide +kernel))) rfl
theorem wk4_55 : Jvm.Cond.code ({ cls := "BooksMovedModel", name := "at", desc := "(I)I" } : Jvm.MethodName) prog_9_method_33_code (2 : Nat) (Option.some Jvm.ClassFile.FieldType.int) ∈ WL := WL_in (tm4 (List.mem_of_getElem? (i := 55) rfl)) rfl
theorem wk4_56 : Jvm.Cond.methodLink "BooksMovedLaw" (99 : Nat) ({ cls := "BooksMovedModel", name := "misplace", desc := "(II)Z" } : Jvm.MethodName) ∈ WL := WL_in (tm4 (List.mem_of_getElem? (i := 56) (by decide +kernel))) rfl
theorem wk4_57 : Jvm.Cond.instanceMethod ({ cls := "BooksMovedModel", name := "misplace", desc := "(II)Z" } : Jvm.MethodName) ∈ WL := WL_in (tm4 (List.mem_of_getElem? (i := 57) (by decide +kernel))) rfl
theorem wk4_58 : Jvm.Cond.selects "BooksMovedModel" ({ cls := "BooksMovedModel", name := "misplace", desc := "(II)Z" } : Jvm.MethodName) ({ cls := "BooksMovedModel", name := "misplace", desc := "(II)Z" } : Jvm.MethodName) ∈ WL := WL_in (tm4 (List.mem_of_getElem? (i := 58) (by decide +kernel))) rfl
theorem wk4_59 : Jvm.Cond.code ({ cls := "BooksMovedModel", name := "misplace", desc := "(II)Z" } : Jvm.MethodName) prog_9_method_34_code (5 : Nat) (Option.some Jvm.ClassFile.FieldType.boolean) ∈ WL := WL_in (tm4 (List.mem_of_getElem? (i := 59) rfl)) rfl
theorem wk4_60 : Jvm.Cond.methodLink "BooksMovedLaw" (103 : Nat) ({ cls := "BooksMovedModel", name := "takenOut", desc := "()I" } : Jvm.MethodName) ∈ WL := WL_in (tm4 (List.mem_of_getElem? (i := 60) (by decide +kernel))) rfl
theorem wk4_61 : Jvm.Cond.instanceMethod ({ cls := "BooksMovedModel", name := "takenOut", desc := "()I" } : Jvm.MethodName) ∈ WL := WL_in (tm4 (List.mem_of_getElem? (i := 61) (by decide +kernel))) rfl
theorem wk4_62 : Jvm.Cond.selects "BooksMovedModel" ({ cls := "BooksMovedModel", name := "takenOut", desc := "()I" } : Jvm.MethodName) ({ cls := "BooksMovedModel", name := "takenOut", desc := "()I" } : Jvm.MethodName) ∈ WL := WL_in (tm4 (List.mem_of_getElem? (i := 62) (by decide +kernel))) rfl
theorem wk4_63 : Jvm.Cond.code ({ cls := "BooksMovedModel", name := "takenOut", desc := "()I" } : Jvm.MethodName) prog_9_method_36_code (1 : Nat) (Option.some Jvm.ClassFile.FieldType.int) ∈ WL := WL_in (tm4 (List.mem_of_getElem? (i := 63) rfl)) rfl
theorem wk4_64 : Jvm.Cond.methodLink "BooksMovedModel" (179 : Nat) ({ cls := "BooksMovedModel", name := "takeOut", desc := "()I" } : Jvm.MethodName) ∈ WL := WL_in (tm4 (List.mem_of_getElem? (i := 64) (by decide +kernel))) rfl
theorem wk4_66 : Jvm.Cond.instanceMethod ({ cls := "BooksMovedModel", name := "takeOut", desc := "()I" } : Jvm.MethodName) ∈ WL := WL_in (tm4 (List.mem_of_getElem? (i := 66) (by decide +kernel))) rfl
theorem wk4_67 : Jvm.Cond.code ({ cls := "BooksMovedModel", name := "takeOut", desc := "()I" } : Jvm.MethodName) prog_9_method_35_code (5 : Nat) (Option.some Jvm.ClassFile.FieldType.int) ∈ WL := WL_in (tm4 (List.mem_of_getElem? (i := 67) rfl)) rfl
theorem wk4_68 : Jvm.Cond.methodLink "BooksMovedLaw" (107 : Nat) ({ cls := "BooksMovedModel", name := "isOut", desc := "(I)I" } : Jvm.MethodName) ∈ WL := WL_in (tm4 (List.mem_of_getElem? (i := 68) (by decide +kernel))) rfl
theorem wk4_69 : Jvm.Cond.instanceMethod ({ cls := "BooksMovedModel", name := "isOut", desc := "(I)I" } : Jvm.MethodName) ∈ WL := WL_in (tm4 (List.mem_of_getElem? (i := 69) (by decide +kernel))) rfl
theorem wk4_70 : Jvm.Cond.selects "BooksMovedModel" ({ cls := "BooksMovedModel", name := "isOut", desc := "(I)I" } : Jvm.MethodName) ({ cls := "BooksMovedModel", name := "isOut", desc := "(I)I" } : Jvm.MethodName) ∈ WL := WL_in (tm4 (List.mem_of_getElem? (i := 70) (by decide +kernel))) rfl
theorem wk4_71 : Jvm.Cond.code ({ cls := "BooksMovedModel", name := "isOut", desc := "(I)I" } : Jvm.MethodName) prog_9_method_37_code (2 : Nat) (Option.some Jvm.ClassFile.FieldType.int) ∈ WL := WL_in (tm4 (List.mem_of_getElem? (i := 71) rfl)) rfl
theorem wk4_72 : Jvm.Cond.methodLink "BooksMovedLaw" (111 : Nat) ({ cls := "BooksMovedModel", name := "drawn", desc := "(III)I" } : Jvm.MethodName) ∈ WL := WL_in (tm4 (List.mem_of_getElem? (i := 72) (by decide +kernel))) rfl
theorem wk4_73 : Jvm.Cond.instanceMethod ({ cls := "BooksMovedModel", name := "drawn", desc := "(III)I" } : Jvm.MethodName) ∈ WL := WL_in (tm4 (List.mem_of_getElem? (i := 73) (by decide +kernel))) rfl
theorem wk4_74 : Jvm.Cond.selects "BooksMovedModel" ({ cls := "BooksMovedModel", name := "drawn", desc := "(III)I" } : Jvm.MethodName) ({ cls := "BooksMovedModel", name := "drawn", desc := "(III)I" } : Jvm.MethodName) ∈ WL := WL_in (tm4 (List.mem_of_getElem? (i := 74) (by decide +kernel))) rfl
theorem wk4_75 : Jvm.Cond.code ({ cls := "BooksMovedModel", name := "drawn", desc := "(III)I" } : Jvm.MethodName) prog_9_method_38_code (10 : Nat) (Option.some Jvm.ClassFile.FieldType.int) ∈ WL := WL_in (tm4 (List.mem_of_getElem? (i := 75) rfl)) rfl
theorem wk4_76 : Jvm.Cond.constant "BooksMovedModel" (182 : Nat) (1103515245 : Int32) ∈ WL := WL_in (tm4 (List.mem_of_getElem? (i := 76) (by decide +kernel))) rfl
theorem wk4_77 : Jvm.Cond.methodLink "BooksMovedLaw" (115 : Nat) ({ cls := "BooksMovedModel", name := "about", desc := "(I)I" } : Jvm.MethodName) ∈ WL := WL_in (tm4 (List.mem_of_getElem? (i := 77) (by decide +kernel))) rfl
theorem wk4_78 : Jvm.Cond.instanceMethod ({ cls := "BooksMovedModel", name := "about", desc := "(I)I" } : Jvm.MethodName) ∈ WL := WL_in (tm4 (List.mem_of_getElem? (i := 78) (by decide +kernel))) rfl
theorem wk4_79 : Jvm.Cond.selects "BooksMovedModel" ({ cls := "BooksMovedModel", name := "about", desc := "(I)I" } : Jvm.MethodName) ({ cls := "BooksMovedModel", name := "about", desc := "(I)I" } : Jvm.MethodName) ∈ WL := WL_in (tm4 (List.mem_of_getElem? (i := 79) (by decide +kernel))) rfl
theorem wk4_80 : Jvm.Cond.code ({ cls := "BooksMovedModel", name := "about", desc := "(I)I" } : Jvm.MethodName) prog_9_method_39_code (2 : Nat) (Option.some Jvm.ClassFile.FieldType.int) ∈ WL := WL_in (tm4 (List.mem_of_getElem? (i := 80) rfl)) rfl
theorem wkp_0 : Jvm.Cond.selects "BooksMoved$Mark" ({ cls := "BooksMoved$Mark", name := "readBehind", desc := "(LBooksMoved$Tape;II)V" } : Jvm.MethodName) ({ cls := "BooksMoved$Mark", name := "readBehind", desc := "(LBooksMoved$Tape;II)V" } : Jvm.MethodName) ∈ WL := WL_in (tm0 (List.mem_of_getElem? (i := 0) (by decide +kernel))) rfl
theorem wkp_1 : Jvm.Cond.selects "BooksMoved$Mark" ({ cls := "BooksMoved$Mark", name := "readLetters", desc := "(LBooksMoved$Tape;II)V" } : Jvm.MethodName) ({ cls := "BooksMoved$Mark", name := "readLetters", desc := "(LBooksMoved$Tape;II)V" } : Jvm.MethodName) ∈ WL := WL_in (tm0 (List.mem_of_getElem? (i := 1) (by decide +kernel))) rfl
theorem wkp_2 : Jvm.Cond.selects "BooksMoved" ({ cls := "BooksMoved", name := "forgetWhatFollows", desc := "()V" } : Jvm.MethodName) ({ cls := "BooksMoved", name := "forgetWhatFollows", desc := "()V" } : Jvm.MethodName) ∈ WL := WL_in (tm0 (List.mem_of_getElem? (i := 2) (by decide +kernel))) rfl
theorem wkp_3 : Jvm.Cond.selects "BooksMoved$Books" ({ cls := "BooksMoved$Books", name := "putInOrder", desc := "(II)V" } : Jvm.MethodName) ({ cls := "BooksMoved$Books", name := "putInOrder", desc := "(II)V" } : Jvm.MethodName) ∈ WL := WL_in (tm0 (List.mem_of_getElem? (i := 3) (by decide +kernel))) rfl
theorem wkp_4 : Jvm.Cond.selects "BooksMoved$Books" ({ cls := "BooksMoved$Books", name := "quarrelsWithEarlier", desc := "(I)I" } : Jvm.MethodName) ({ cls := "BooksMoved$Books", name := "quarrelsWithEarlier", desc := "(I)I" } : Jvm.MethodName) ∈ WL := WL_in (tm0 (List.mem_of_getElem? (i := 4) (by decide +kernel))) rfl
theorem wkp_5 : Jvm.Cond.selects "BooksMoved" ({ cls := "BooksMoved", name := "makePlans", desc := "()V" } : Jvm.MethodName) ({ cls := "BooksMoved", name := "makePlans", desc := "()V" } : Jvm.MethodName) ∈ WL := WL_in (tm0 (List.mem_of_getElem? (i := 5) (by decide +kernel))) rfl
theorem wkp_6 : Jvm.Cond.selects "BooksMoved$Shelves" ({ cls := "BooksMoved$Shelves", name := "clear", desc := "()V" } : Jvm.MethodName) ({ cls := "BooksMoved$Shelves", name := "clear", desc := "()V" } : Jvm.MethodName) ∈ WL := WL_in (tm0 (List.mem_of_getElem? (i := 6) (by decide +kernel))) rfl
theorem wkp_7 : Jvm.Cond.selects "BooksMoved$Shelves" ({ cls := "BooksMoved$Shelves", name := "put", desc := "(III)V" } : Jvm.MethodName) ({ cls := "BooksMoved$Shelves", name := "put", desc := "(III)V" } : Jvm.MethodName) ∈ WL := WL_in (tm0 (List.mem_of_getElem? (i := 7) (by decide +kernel))) rfl
theorem wkp_8 : Jvm.Cond.selects "BooksMoved$Crates" ({ cls := "BooksMoved$Crates", name := "setMinutes", desc := "()V" } : Jvm.MethodName) ({ cls := "BooksMoved$Crates", name := "setMinutes", desc := "()V" } : Jvm.MethodName) ∈ WL := WL_in (tm0 (List.mem_of_getElem? (i := 8) (by decide +kernel))) rfl
theorem wkp_9 : Jvm.Cond.selects "BooksMoved$Crates" ({ cls := "BooksMoved$Crates", name := "carryFrom", desc := "(II)I" } : Jvm.MethodName) ({ cls := "BooksMoved$Crates", name := "carryFrom", desc := "(II)I" } : Jvm.MethodName) ∈ WL := WL_in (tm0 (List.mem_of_getElem? (i := 9) (by decide +kernel))) rfl
theorem wkp_10 : Jvm.Cond.selects "BooksMoved" ({ cls := "BooksMoved", name := "lookThrough", desc := "()V" } : Jvm.MethodName) ({ cls := "BooksMoved", name := "lookThrough", desc := "()V" } : Jvm.MethodName) ∈ WL := WL_in (tm0 (List.mem_of_getElem? (i := 10) (by decide +kernel))) rfl
theorem wkp_11 : Jvm.Cond.selects "BooksMoved$Row" ({ cls := "BooksMoved$Row", name := "mostBehind", desc := "(ILBooksMoved$Books;I)I" } : Jvm.MethodName) ({ cls := "BooksMoved$Row", name := "mostBehind", desc := "(ILBooksMoved$Books;I)I" } : Jvm.MethodName) ∈ WL := WL_in (tm0 (List.mem_of_getElem? (i := 11) (by decide +kernel))) rfl
theorem wkp_12 : Jvm.Cond.selects "BooksMovedModel" ({ cls := "BooksMovedModel", name := "four", desc := "(I)V" } : Jvm.MethodName) ({ cls := "BooksMovedModel", name := "four", desc := "(I)V" } : Jvm.MethodName) ∈ WL := WL_in (tm0 (List.mem_of_getElem? (i := 12) (by decide +kernel))) rfl
theorem wkp_13 : Jvm.Cond.selects "BooksMovedModel" ({ cls := "BooksMovedModel", name := "isMark", desc := "(I)Z" } : Jvm.MethodName) ({ cls := "BooksMovedModel", name := "isMark", desc := "(I)Z" } : Jvm.MethodName) ∈ WL := WL_in (tm0 (List.mem_of_getElem? (i := 13) (by decide +kernel))) rfl
theorem wkp_14 : Jvm.Cond.selects "BooksMovedModel" ({ cls := "BooksMovedModel", name := "digitsHere", desc := "()I" } : Jvm.MethodName) ({ cls := "BooksMovedModel", name := "digitsHere", desc := "()I" } : Jvm.MethodName) ∈ WL := WL_in (tm0 (List.mem_of_getElem? (i := 14) (by decide +kernel))) rfl
theorem wkp_15 : Jvm.Cond.selects "BooksMovedModel" ({ cls := "BooksMovedModel", name := "see", desc := "(I)I" } : Jvm.MethodName) ({ cls := "BooksMovedModel", name := "see", desc := "(I)I" } : Jvm.MethodName) ∈ WL := WL_in (tm0 (List.mem_of_getElem? (i := 15) (by decide +kernel))) rfl
theorem wkp_16 : Jvm.Cond.selects "BooksMovedModel" ({ cls := "BooksMovedModel", name := "isBook", desc := "(I)Z" } : Jvm.MethodName) ({ cls := "BooksMovedModel", name := "isBook", desc := "(I)Z" } : Jvm.MethodName) ∈ WL := WL_in (tm0 (List.mem_of_getElem? (i := 16) (by decide +kernel))) rfl
theorem wkp_17 : Jvm.Cond.selects "BooksMovedModel" ({ cls := "BooksMovedModel", name := "against", desc := "(III)I" } : Jvm.MethodName) ({ cls := "BooksMovedModel", name := "against", desc := "(III)I" } : Jvm.MethodName) ∈ WL := WL_in (tm0 (List.mem_of_getElem? (i := 17) (by decide +kernel))) rfl
theorem wkp_18 : Jvm.Cond.selects "BooksMovedModel" ({ cls := "BooksMovedModel", name := "keyOf", desc := "(II)I" } : Jvm.MethodName) ({ cls := "BooksMovedModel", name := "keyOf", desc := "(II)I" } : Jvm.MethodName) ∈ WL := WL_in (tm0 (List.mem_of_getElem? (i := 18) (by decide +kernel))) rfl
theorem wkp_19 : Jvm.Cond.selects "BooksMovedModel" ({ cls := "BooksMovedModel", name := "sort", desc := "(I)V" } : Jvm.MethodName) ({ cls := "BooksMovedModel", name := "sort", desc := "(I)V" } : Jvm.MethodName) ∈ WL := WL_in (tm0 (List.mem_of_getElem? (i := 19) (by decide +kernel))) rfl
theorem wkp_20 : Jvm.Cond.selects "BooksMovedModel" ({ cls := "BooksMovedModel", name := "lay", desc := "()V" } : Jvm.MethodName) ({ cls := "BooksMovedModel", name := "lay", desc := "()V" } : Jvm.MethodName) ∈ WL := WL_in (tm0 (List.mem_of_getElem? (i := 20) (by decide +kernel))) rfl
theorem wkp_21 : Jvm.Cond.selects "BooksMovedModel" ({ cls := "BooksMovedModel", name := "pack", desc := "()V" } : Jvm.MethodName) ({ cls := "BooksMovedModel", name := "pack", desc := "()V" } : Jvm.MethodName) ∈ WL := WL_in (tm0 (List.mem_of_getElem? (i := 21) (by decide +kernel))) rfl
theorem wkp_22 : Jvm.Cond.selects "BooksMovedModel" ({ cls := "BooksMovedModel", name := "meet", desc := "()V" } : Jvm.MethodName) ({ cls := "BooksMovedModel", name := "meet", desc := "()V" } : Jvm.MethodName) ∈ WL := WL_in (tm0 (List.mem_of_getElem? (i := 22) (by decide +kernel))) rfl
theorem wkp_23 : Jvm.Cond.selects "BooksMovedModel" ({ cls := "BooksMovedModel", name := "takeOut", desc := "()I" } : Jvm.MethodName) ({ cls := "BooksMovedModel", name := "takeOut", desc := "()I" } : Jvm.MethodName) ∈ WL := WL_in (tm0 (List.mem_of_getElem? (i := 23) (by decide +kernel))) rfl
theorem wl0_0 : u_lay RX0 TX0 0 ∈ WL := WL_in (tm1 (List.mem_of_getElem? (i := 91) (by decide +kernel))) (by decide +kernel)
theorem wl0_1 : u_lay RX0 TX0 1 ∈ WL := WL_in (tm1 (List.mem_of_getElem? (i := 93) (by decide +kernel))) (by decide +kernel)
theorem wl0_2 : u_lay RX0 TX0 2 ∈ WL := WL_in (tm1 (List.mem_of_getElem? (i := 95) (by decide +kernel))) (by decide +kernel)
theorem wl0_3 : u_lay RX0 TX0 3 ∈ WL := WL_in (tm1 (List.mem_of_getElem? (i := 97) (by decide +kernel))) (by decide +kernel)
theorem wl0_4 : u_lay RX0 TX0 4 ∈ WL := WL_in (tm1 (List.mem_of_getElem? (i := 99) (by decide +kernel))) (by decide +kernel)
theorem wl0_5 : u_lay RX0 TX0 5 ∈ WL := WL_in (tm1 (List.mem_of_getElem? (i := 101) (by decide +kernel))) (by decide +kernel)
theorem wl0_6 : u_lay RX0 TX0 6 ∈ WL := WL_in (tm1 (List.mem_of_getElem? (i := 103) (by decide +kernel))) (by decide +kernel)
theorem wl0_7 : u_lay RX0 TX0 7 ∈ WL := WL_in (tm1 (List.mem_of_getElem? (i := 105) (by decide +kernel))) (by decide +kernel)
theorem inW0 : ∀ w ∈ wsX00, w ∈ WL := by
  intro w hw
  obtain ⟨k, hk, rfl⟩ := List.mem_map.mp hw
  have hk := List.mem_range.mp hk
  match k, hk with
  | 0, _ => exact wl0_0
  | 1, _ => exact wl0_1
  | 2, _ => exact wl0_2
  | 3, _ => exact wl0_3
  | 4, _ => exact wl0_4
  | 5, _ => exact wl0_5
  | 6, _ => exact wl0_6
  | 7, _ => exact wl0_7
  | k + 8, hk => exact absurd hk (by omega)
theorem wl1_0 : u_lay RX1 TX1 0 ∈ WL := WL_in (tm1 (List.mem_of_getElem? (i := 183) (by decide +kernel))) (by decide +kernel)
theorem wl1_1 : u_lay RX1 TX1 1 ∈ WL := WL_in (tm1 (List.mem_of_getElem? (i := 185) (by decide +kernel))) (by decide +kernel)
theorem wl1_2 : u_lay RX1 TX1 2 ∈ WL := WL_in (tm1 (List.mem_of_getElem? (i := 187) (by decide +kernel))) (by decide +kernel)
theorem wl1_3 : u_lay RX1 TX1 3 ∈ WL := WL_in (tm1 (List.mem_of_getElem? (i := 189) (by decide +kernel))) (by decide +kernel)
theorem wl1_4 : u_lay RX1 TX1 4 ∈ WL := WL_in (tm1 (List.mem_of_getElem? (i := 191) (by decide +kernel))) (by decide +kernel)
theorem wl1_5 : u_lay RX1 TX1 5 ∈ WL := WL_in (tm1 (List.mem_of_getElem? (i := 193) (by decide +kernel))) (by decide +kernel)
theorem wl1_6 : u_lay RX1 TX1 6 ∈ WL := WL_in (tm1 (List.mem_of_getElem? (i := 195) (by decide +kernel))) (by decide +kernel)
theorem wl1_7 : u_lay RX1 TX1 7 ∈ WL := WL_in (tm1 (List.mem_of_getElem? (i := 197) (by decide +kernel))) (by decide +kernel)
theorem wl1_8 : u_lay RX1 TX1 8 ∈ WL := WL_in (tm1 (List.mem_of_getElem? (i := 199) (by decide +kernel))) (by decide +kernel)
theorem wl1_9 : u_lay RX1 TX1 9 ∈ WL := WL_in (tm1 (List.mem_of_getElem? (i := 201) (by decide +kernel))) (by decide +kernel)
theorem wl1_10 : u_lay RX1 TX1 10 ∈ WL := WL_in (tm1 (List.mem_of_getElem? (i := 203) (by decide +kernel))) (by decide +kernel)
theorem inW1 : ∀ w ∈ wsX10, w ∈ WL := by
  intro w hw
  obtain ⟨k, hk, rfl⟩ := List.mem_map.mp hw
  have hk := List.mem_range.mp hk
  match k, hk with
  | 0, _ => exact wl1_0
  | 1, _ => exact wl1_1
  | 2, _ => exact wl1_2
  | 3, _ => exact wl1_3
  | 4, _ => exact wl1_4
  | 5, _ => exact wl1_5
  | 6, _ => exact wl1_6
  | 7, _ => exact wl1_7
  | 8, _ => exact wl1_8
  | 9, _ => exact wl1_9
  | 10, _ => exact wl1_10
  | k + 11, hk => exact absurd hk (by omega)
theorem wl2_0 : u_lay RX2 TX2 0 ∈ WL := WL_in (tm1 (List.mem_of_getElem? (i := 48) (by decide +kernel))) (by decide +kernel)
theorem wl2_1 : u_lay RX2 TX2 1 ∈ WL := WL_in (tm1 (List.mem_of_getElem? (i := 50) (by decide +kernel))) (by decide +kernel)
theorem wl2_2 : u_lay RX2 TX2 2 ∈ WL := WL_in (tm1 (List.mem_of_getElem? (i := 52) (by decide +kernel))) (by decide +kernel)
theorem wl2_3 : u_lay RX2 TX2 3 ∈ WL := WL_in (tm1 (List.mem_of_getElem? (i := 54) (by decide +kernel))) (by decide +kernel)
theorem wl2_4 : u_lay RX2 TX2 4 ∈ WL := WL_in (tm1 (List.mem_of_getElem? (i := 56) (by decide +kernel))) (by decide +kernel)
theorem wl2_5 : u_lay RX2 TX2 5 ∈ WL := WL_in (tm1 (List.mem_of_getElem? (i := 58) (by decide +kernel))) (by decide +kernel)
theorem inW2 : ∀ w ∈ wsX20, w ∈ WL := by
  intro w hw
  obtain ⟨k, hk, rfl⟩ := List.mem_map.mp hw
  have hk := List.mem_range.mp hk
  match k, hk with
  | 0, _ => exact wl2_0
  | 1, _ => exact wl2_1
  | 2, _ => exact wl2_2
  | 3, _ => exact wl2_3
  | 4, _ => exact wl2_4
  | 5, _ => exact wl2_5
  | k + 6, hk => exact absurd hk (by omega)
theorem wl3_0 : u_lay RX3 TX3 0 ∈ WL := WL_in (tm1 (List.mem_of_getElem? (i := 222) (by decide +kernel))) (by decide +kernel)
theorem wl3_1 : u_lay RX3 TX3 1 ∈ WL := WL_in (tm1 (List.mem_of_getElem? (i := 224) (by decide +kernel))) (by decide +kernel)
theorem wl3_2 : u_lay RX3 TX3 2 ∈ WL := WL_in (tm1 (List.mem_of_getElem? (i := 226) (by decide +kernel))) (by decide +kernel)
theorem wl3_3 : u_lay RX3 TX3 3 ∈ WL := WL_in (tm1 (List.mem_of_getElem? (i := 228) (by decide +kernel))) (by decide +kernel)
theorem wl3_4 : u_lay RX3 TX3 4 ∈ WL := WL_in (tm1 (List.mem_of_getElem? (i := 230) (by decide +kernel))) (by decide +kernel)
theorem wl3_5 : u_lay RX3 TX3 5 ∈ WL := WL_in (tm1 (List.mem_of_getElem? (i := 232) (by decide +kernel))) (by decide +kernel)
theorem inW3 : ∀ w ∈ wsX30, w ∈ WL := by
  intro w hw
  obtain ⟨k, hk, rfl⟩ := List.mem_map.mp hw
  have hk := List.mem_range.mp hk
  match k, hk with
  | 0, _ => exact wl3_0
  | 1, _ => exact wl3_1
  | 2, _ => exact wl3_2
  | 3, _ => exact wl3_3
  | 4, _ => exact wl3_4
  | 5, _ => exact wl3_5
  | k + 6, hk => exact absurd hk (by omega)
theorem wl4_0 : u_lay RX4 TX4 0 ∈ WL := WL_in (tm1 (List.mem_of_getElem? (i := 134) (by decide +kernel))) (by decide +kernel)
theorem wl4_1 : u_lay RX4 TX4 1 ∈ WL := WL_in (tm1 (List.mem_of_getElem? (i := 136) (by decide +kernel))) (by decide +kernel)
theorem wl4_2 : u_lay RX4 TX4 2 ∈ WL := WL_in (tm1 (List.mem_of_getElem? (i := 138) (by decide +kernel))) (by decide +kernel)
theorem wl4_3 : u_lay RX4 TX4 3 ∈ WL := WL_in (tm1 (List.mem_of_getElem? (i := 140) (by decide +kernel))) (by decide +kernel)
theorem wl4_4 : u_lay RX4 TX4 4 ∈ WL := WL_in (tm1 (List.mem_of_getElem? (i := 142) (by decide +kernel))) (by decide +kernel)
theorem wl4_5 : u_lay RX4 TX4 5 ∈ WL := WL_in (tm1 (List.mem_of_getElem? (i := 144) (by decide +kernel))) (by decide +kernel)
theorem wl4_6 : u_lay RX4 TX4 6 ∈ WL := WL_in (tm1 (List.mem_of_getElem? (i := 146) (by decide +kernel))) (by decide +kernel)
theorem wl4_7 : u_lay RX4 TX4 7 ∈ WL := WL_in (tm1 (List.mem_of_getElem? (i := 148) (by decide +kernel))) (by decide +kernel)
theorem wl4_8 : u_lay RX4 TX4 8 ∈ WL := WL_in (tm1 (List.mem_of_getElem? (i := 150) (by decide +kernel))) (by decide +kernel)
theorem wl4_9 : u_lay RX4 TX4 9 ∈ WL := WL_in (tm1 (List.mem_of_getElem? (i := 152) (by decide +kernel))) (by decide +kernel)
theorem inW4 : ∀ w ∈ wsX40, w ∈ WL := by
  intro w hw
  obtain ⟨k, hk, rfl⟩ := List.mem_map.mp hw
  have hk := List.mem_range.mp hk
  match k, hk with
  | 0, _ => exact wl4_0
  | 1, _ => exact wl4_1
  | 2, _ => exact wl4_2
  | 3, _ => exact wl4_3
  | 4, _ => exact wl4_4
  | 5, _ => exact wl4_5
  | 6, _ => exact wl4_6
  | 7, _ => exact wl4_7
  | 8, _ => exact wl4_8
  | 9, _ => exact wl4_9
  | k + 10, hk => exact absurd hk (by omega)
theorem wl5_0 : u_lay RX5 TX5 0 ∈ WL := WL_in (tm1 (List.mem_of_getElem? (i := 28) (by decide +kernel))) (by decide +kernel)
theorem wl5_1 : u_lay RX5 TX5 1 ∈ WL := WL_in (tm1 (List.mem_of_getElem? (i := 30) (by decide +kernel))) (by decide +kernel)
theorem inW5 : ∀ w ∈ wsX50, w ∈ WL := by
  intro w hw
  obtain ⟨k, hk, rfl⟩ := List.mem_map.mp hw
  have hk := List.mem_range.mp hk
  match k, hk with
  | 0, _ => exact wl5_0
  | 1, _ => exact wl5_1
  | k + 2, hk => exact absurd hk (by omega)
theorem wl6_0 : u_lay RX6 TX6 0 ∈ WL := WL_in (tm2 (List.mem_of_getElem? (i := 5) (by decide +kernel))) (by decide +kernel)
theorem wl6_1 : u_lay RX6 TX6 1 ∈ WL := WL_in (tm2 (List.mem_of_getElem? (i := 7) (by decide +kernel))) (by decide +kernel)
theorem wl6_2 : u_lay RX6 TX6 2 ∈ WL := WL_in (tm2 (List.mem_of_getElem? (i := 9) (by decide +kernel))) (by decide +kernel)
theorem wl6_3 : u_lay RX6 TX6 3 ∈ WL := WL_in (tm2 (List.mem_of_getElem? (i := 11) (by decide +kernel))) (by decide +kernel)
theorem wl6_4 : u_lay RX6 TX6 4 ∈ WL := WL_in (tm2 (List.mem_of_getElem? (i := 13) (by decide +kernel))) (by decide +kernel)
theorem wl6_5 : u_lay RX6 TX6 5 ∈ WL := WL_in (tm2 (List.mem_of_getElem? (i := 15) (by decide +kernel))) (by decide +kernel)
theorem wl6_6 : u_lay RX6 TX6 6 ∈ WL := WL_in (tm2 (List.mem_of_getElem? (i := 17) (by decide +kernel))) (by decide +kernel)
theorem wl6_7 : u_lay RX6 TX6 7 ∈ WL := WL_in (tm2 (List.mem_of_getElem? (i := 19) (by decide +kernel))) (by decide +kernel)
theorem wl6_8 : u_lay RX6 TX6 8 ∈ WL := WL_in (tm2 (List.mem_of_getElem? (i := 21) (by decide +kernel))) (by decide +kernel)
theorem inW6 : ∀ w ∈ wsX60, w ∈ WL := by
  intro w hw
  obtain ⟨k, hk, rfl⟩ := List.mem_map.mp hw
  have hk := List.mem_range.mp hk
  match k, hk with
  | 0, _ => exact wl6_0
  | 1, _ => exact wl6_1
  | 2, _ => exact wl6_2
  | 3, _ => exact wl6_3
  | 4, _ => exact wl6_4
  | 5, _ => exact wl6_5
  | 6, _ => exact wl6_6
  | 7, _ => exact wl6_7
  | 8, _ => exact wl6_8
  | k + 9, hk => exact absurd hk (by omega)
theorem wl7_0 : u_lay RX7 TX7 0 ∈ WL := WL_in (tm3 (List.mem_of_getElem? (i := 88) (by decide +kernel))) (by decide +kernel)
theorem wl7_1 : u_lay RX7 TX7 1 ∈ WL := WL_in (tm3 (List.mem_of_getElem? (i := 90) (by decide +kernel))) (by decide +kernel)
theorem wl7_2 : u_lay RX7 TX7 2 ∈ WL := WL_in (tm3 (List.mem_of_getElem? (i := 92) (by decide +kernel))) (by decide +kernel)
theorem wl7_3 : u_lay RX7 TX7 3 ∈ WL := WL_in (tm3 (List.mem_of_getElem? (i := 94) (by decide +kernel))) (by decide +kernel)
theorem wl7_4 : u_lay RX7 TX7 4 ∈ WL := WL_in (tm3 (List.mem_of_getElem? (i := 96) (by decide +kernel))) (by decide +kernel)
theorem wl7_5 : u_lay RX7 TX7 5 ∈ WL := WL_in (tm3 (List.mem_of_getElem? (i := 98) (by decide +kernel))) (by decide +kernel)
theorem wl7_6 : u_lay RX7 TX7 6 ∈ WL := WL_in (tm3 (List.mem_of_getElem? (i := 100) (by decide +kernel))) (by decide +kernel)
theorem wl7_7 : u_lay RX7 TX7 7 ∈ WL := WL_in (tm3 (List.mem_of_getElem? (i := 102) (by decide +kernel))) (by decide +kernel)
theorem wl7_8 : u_lay RX7 TX7 8 ∈ WL := WL_in (tm3 (List.mem_of_getElem? (i := 104) (by decide +kernel))) (by decide +kernel)
theorem wl7_9 : u_lay RX7 TX7 9 ∈ WL := WL_in (tm3 (List.mem_of_getElem? (i := 106) (by decide +kernel))) (by decide +kernel)
theorem wl7_10 : u_lay RX7 TX7 10 ∈ WL := WL_in (tm3 (List.mem_of_getElem? (i := 108) (by decide +kernel))) (by decide +kernel)
theorem wl7_11 : u_lay RX7 TX7 11 ∈ WL := WL_in (tm3 (List.mem_of_getElem? (i := 110) (by decide +kernel))) (by decide +kernel)
theorem wl7_12 : u_lay RX7 TX7 12 ∈ WL := WL_in (tm3 (List.mem_of_getElem? (i := 112) (by decide +kernel))) (by decide +kernel)
theorem wl7_13 : u_lay RX7 TX7 13 ∈ WL := WL_in (tm3 (List.mem_of_getElem? (i := 114) (by decide +kernel))) (by decide +kernel)
theorem wl7_14 : u_lay RX7 TX7 14 ∈ WL := WL_in (tm3 (List.mem_of_getElem? (i := 116) (by decide +kernel))) (by decide +kernel)
theorem wl7_15 : u_lay RX7 TX7 15 ∈ WL := WL_in (tm3 (List.mem_of_getElem? (i := 118) (by decide +kernel))) (by decide +kernel)
theorem wl7_16 : u_lay RX7 TX7 16 ∈ WL := WL_in (tm3 (List.mem_of_getElem? (i := 120) (by decide +kernel))) (by decide +kernel)
theorem wl7_17 : u_lay RX7 TX7 17 ∈ WL := WL_in (tm3 (List.mem_of_getElem? (i := 122) (by decide +kernel))) (by decide +kernel)
theorem wl7_18 : u_lay RX7 TX7 18 ∈ WL := WL_in (tm3 (List.mem_of_getElem? (i := 124) (by decide +kernel))) (by decide +kernel)
theorem wl7_19 : u_lay RX7 TX7 19 ∈ WL := WL_in (tm3 (List.mem_of_getElem? (i := 126) (by decide +kernel))) (by decide +kernel)
theorem wl7_20 : u_lay RX7 TX7 20 ∈ WL := WL_in (tm3 (List.mem_of_getElem? (i := 128) (by decide +kernel))) (by decide +kernel)
theorem wl7_21 : u_lay RX7 TX7 21 ∈ WL := WL_in (tm3 (List.mem_of_getElem? (i := 130) (by decide +kernel))) (by decide +kernel)
theorem wl7_22 : u_lay RX7 TX7 22 ∈ WL := WL_in (tm3 (List.mem_of_getElem? (i := 132) (by decide +kernel))) (by decide +kernel)
theorem wl7_23 : u_lay RX7 TX7 23 ∈ WL := WL_in (tm3 (List.mem_of_getElem? (i := 134) (by decide +kernel))) (by decide +kernel)
theorem wl7_24 : u_lay RX7 TX7 24 ∈ WL := WL_in (tm3 (List.mem_of_getElem? (i := 136) (by decide +kernel))) (by decide +kernel)
theorem wl7_25 : u_lay RX7 TX7 25 ∈ WL := WL_in (tm3 (List.mem_of_getElem? (i := 138) (by decide +kernel))) (by decide +kernel)
theorem wl7_26 : u_lay RX7 TX7 26 ∈ WL := WL_in (tm3 (List.mem_of_getElem? (i := 140) (by decide +kernel))) (by decide +kernel)
theorem wl7_27 : u_lay RX7 TX7 27 ∈ WL := WL_in (tm3 (List.mem_of_getElem? (i := 142) (by decide +kernel))) (by decide +kernel)
theorem wl7_28 : u_lay RX7 TX7 28 ∈ WL := WL_in (tm3 (List.mem_of_getElem? (i := 144) (by decide +kernel))) (by decide +kernel)
theorem wl7_29 : u_lay RX7 TX7 29 ∈ WL := WL_in (tm3 (List.mem_of_getElem? (i := 146) (by decide +kernel))) (by decide +kernel)
theorem wl7_30 : u_lay RX7 TX7 30 ∈ WL := WL_in (tm3 (List.mem_of_getElem? (i := 148) (by decide +kernel))) (by decide +kernel)
theorem wl7_31 : u_lay RX7 TX7 31 ∈ WL := WL_in (tm3 (List.mem_of_getElem? (i := 150) (by decide +kernel))) (by decide +kernel)
theorem wl7_32 : u_lay RX7 TX7 32 ∈ WL := WL_in (tm3 (List.mem_of_getElem? (i := 152) (by decide +kernel))) (by decide +kernel)
theorem wl7_33 : u_lay RX7 TX7 33 ∈ WL := WL_in (tm3 (List.mem_of_getElem? (i := 154) (by decide +kernel))) (by decide +kernel)
theorem wl7_34 : u_lay RX7 TX7 34 ∈ WL := WL_in (tm3 (List.mem_of_getElem? (i := 156) (by decide +kernel))) (by decide +kernel)
theorem wl7_35 : u_lay RX7 TX7 35 ∈ WL := WL_in (tm3 (List.mem_of_getElem? (i := 158) (by decide +kernel))) (by decide +kernel)
theorem wl7_36 : u_lay RX7 TX7 36 ∈ WL := WL_in (tm3 (List.mem_of_getElem? (i := 160) (by decide +kernel))) (by decide +kernel)
theorem wl7_37 : u_lay RX7 TX7 37 ∈ WL := WL_in (tm3 (List.mem_of_getElem? (i := 162) (by decide +kernel))) (by decide +kernel)
theorem wl7_38 : u_lay RX7 TX7 38 ∈ WL := WL_in (tm3 (List.mem_of_getElem? (i := 164) (by decide +kernel))) (by decide +kernel)
theorem wl7_39 : u_lay RX7 TX7 39 ∈ WL := WL_in (tm3 (List.mem_of_getElem? (i := 166) (by decide +kernel))) (by decide +kernel)
theorem inW7 : ∀ w ∈ wsX70, w ∈ WL := by
  intro w hw
  obtain ⟨k, hk, rfl⟩ := List.mem_map.mp hw
  have hk := List.mem_range.mp hk
  match k, hk with
  | 0, _ => exact wl7_0
  | 1, _ => exact wl7_1
  | 2, _ => exact wl7_2
  | 3, _ => exact wl7_3
  | 4, _ => exact wl7_4
  | 5, _ => exact wl7_5
  | 6, _ => exact wl7_6
  | 7, _ => exact wl7_7
  | 8, _ => exact wl7_8
  | 9, _ => exact wl7_9
  | 10, _ => exact wl7_10
  | 11, _ => exact wl7_11
  | 12, _ => exact wl7_12
  | 13, _ => exact wl7_13
  | 14, _ => exact wl7_14
  | 15, _ => exact wl7_15
  | 16, _ => exact wl7_16
  | 17, _ => exact wl7_17
  | 18, _ => exact wl7_18
  | 19, _ => exact wl7_19
  | 20, _ => exact wl7_20
  | 21, _ => exact wl7_21
  | 22, _ => exact wl7_22
  | 23, _ => exact wl7_23
  | 24, _ => exact wl7_24
  | 25, _ => exact wl7_25
  | 26, _ => exact wl7_26
  | 27, _ => exact wl7_27
  | 28, _ => exact wl7_28
  | 29, _ => exact wl7_29
  | 30, _ => exact wl7_30
  | 31, _ => exact wl7_31
  | 32, _ => exact wl7_32
  | 33, _ => exact wl7_33
  | 34, _ => exact wl7_34
  | 35, _ => exact wl7_35
  | 36, _ => exact wl7_36
  | 37, _ => exact wl7_37
  | 38, _ => exact wl7_38
  | 39, _ => exact wl7_39
  | k + 40, hk => exact absurd hk (by omega)
