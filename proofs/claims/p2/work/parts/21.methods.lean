/-! THE WORDS THAT ARE NO GOOD ONES; THE METHODS -/
def xnF : List (String × Nat × String × String × String × String) := [("Weightlattice$Register", 38, "Weightlattice$Roots", "rank", "I", "Weightlattice"), ("Weightlattice$Register", 44, "Weightlattice$Roots", "matrix", "[[I", "Weightlattice"), ("Weightlattice", 311, "Weightlattice$Roots", "rank", "I", "Weightlattice"), ("java/util/ArrayList$Itr", 28, "java/util/ArrayList", "size", "I", "java/util/ArrayList"), ("Weightlattice", 89, "Weightlattice$Word", "size", "I", "Weightlattice"), ("Weightlattice", 150, "Weightlattice$Word", "mirrors", "[I", "Weightlattice"), ("java/util/Arrays", 112, "java/util/Arrays$LegacyMergeSort", "userRequested", "Z", "java/util/Arrays"), ("Weightlattice$Register", 48, "Weightlattice$Roots", "count", "I", "Weightlattice"), ("Weightlattice", 97, "Weightlattice$Splitter", "parts", "LWeightlattice$Sum;", "Weightlattice"), ("Weightlattice", 106, "Weightlattice$Roots", "rho", "[J", "Weightlattice"), ("Weightlattice", 114, "Weightlattice$Roots", "count", "I", "Weightlattice")]
def xnM : List (String × Nat × MethodName × String) := [("WeightlatticeModel$ByHeight", 7, ⟨"WeightlatticeModel", "sum", "([I)I"⟩, "WeightlatticeModel"), ("WeightlatticeModel$ByHeight", 13, ⟨"WeightlatticeModel", "compare", "([I[I)I"⟩, "WeightlatticeModel"), ("WeightlatticeModel", 113, ⟨"WeightlatticeModel$ByHeight", "<init>", "()V"⟩, "WeightlatticeModel")]
def xnC : List (String × String) := [("[I", "java/lang/Object"), ("[I", "java/lang/Cloneable"), ("java/lang/IllegalStateException", "java/lang/IllegalStateException"), ("java/lang/IllegalArgumentException", "java/lang/IllegalArgumentException")]
def xnI : List (String × MethodName × MethodName) := [("java/util/ArrayList", ⟨"java/util/List", "size", "()I"⟩, ⟨"java/util/ArrayList", "size", "()I"⟩), ("java/util/ArrayList", ⟨"java/util/List", "get", "(I)Ljava/lang/Object;"⟩, ⟨"java/util/ArrayList", "get", "(I)Ljava/lang/Object;"⟩), ("java/util/ArrayList", ⟨"java/util/List", "add", "(Ljava/lang/Object;)Z"⟩, ⟨"java/util/ArrayList", "add", "(Ljava/lang/Object;)Z"⟩), ("WeightlatticeModel$ByHeight", ⟨"java/util/Comparator", "compare", "(Ljava/lang/Object;Ljava/lang/Object;)I"⟩, ⟨"WeightlatticeModel$ByHeight", "compare", "(Ljava/lang/Object;Ljava/lang/Object;)I"⟩), ("java/util/ArrayList", ⟨"java/util/List", "clear", "()V"⟩, ⟨"java/util/ArrayList", "clear", "()V"⟩), ("java/util/ArrayList", ⟨"java/util/List", "sort", "(Ljava/util/Comparator;)V"⟩, ⟨"java/util/ArrayList", "sort", "(Ljava/util/Comparator;)V"⟩), ("java/util/ArrayList", ⟨"java/util/List", "iterator", "()Ljava/util/Iterator;"⟩, ⟨"java/util/ArrayList", "iterator", "()Ljava/util/Iterator;"⟩), ("java/util/ArrayList$Itr", ⟨"java/util/Iterator", "hasNext", "()Z"⟩, ⟨"java/util/ArrayList$Itr", "hasNext", "()Z"⟩), ("java/util/ArrayList$Itr", ⟨"java/util/Iterator", "next", "()Ljava/lang/Object;"⟩, ⟨"java/util/ArrayList$Itr", "next", "()Ljava/lang/Object;"⟩)]
def xnD : List MethodName := [⟨"java/lang/RuntimeException", "<init>", "()V"⟩, ⟨"java/lang/RuntimeException", "<init>", "(Ljava/lang/String;)V"⟩, ⟨"java/lang/Exception", "<init>", "()V"⟩, ⟨"java/lang/Exception", "<init>", "(Ljava/lang/String;)V"⟩, ⟨"java/lang/Throwable", "<init>", "()V"⟩, ⟨"java/lang/Throwable", "<init>", "(Ljava/lang/String;)V"⟩, ⟨"java/lang/IndexOutOfBoundsException", "<init>", "()V"⟩, ⟨"java/lang/IndexOutOfBoundsException", "<init>", "(Ljava/lang/String;)V"⟩]
abbrev xZ (L : Nat) (P : xP) : xD := (xnF, xnM, xnC, xnI, xnD, L, P)
theorem f_0 : (("Weightlattice$Register", 38, "Weightlattice$Roots", "rank", "I", "Weightlattice") : String × Nat × String × String × String × String) ∈ xnF := List.mem_of_getElem? (i := 0) rfl
theorem f_1 : (("Weightlattice$Register", 44, "Weightlattice$Roots", "matrix", "[[I", "Weightlattice") : String × Nat × String × String × String × String) ∈ xnF := List.mem_of_getElem? (i := 1) rfl
theorem f_2 : (("Weightlattice", 311, "Weightlattice$Roots", "rank", "I", "Weightlattice") : String × Nat × String × String × String × String) ∈ xnF := List.mem_of_getElem? (i := 2) rfl
theorem f_3 : (("java/util/ArrayList$Itr", 28, "java/util/ArrayList", "size", "I", "java/util/ArrayList") : String × Nat × String × String × String × String) ∈ xnF := List.mem_of_getElem? (i := 3) rfl
theorem f_4 : (("Weightlattice", 89, "Weightlattice$Word", "size", "I", "Weightlattice") : String × Nat × String × String × String × String) ∈ xnF := List.mem_of_getElem? (i := 4) rfl
theorem f_5 : (("Weightlattice", 150, "Weightlattice$Word", "mirrors", "[I", "Weightlattice") : String × Nat × String × String × String × String) ∈ xnF := List.mem_of_getElem? (i := 5) rfl
theorem f_6 : (("java/util/Arrays", 112, "java/util/Arrays$LegacyMergeSort", "userRequested", "Z", "java/util/Arrays") : String × Nat × String × String × String × String) ∈ xnF := List.mem_of_getElem? (i := 6) rfl
theorem f_7 : (("Weightlattice$Register", 48, "Weightlattice$Roots", "count", "I", "Weightlattice") : String × Nat × String × String × String × String) ∈ xnF := List.mem_of_getElem? (i := 7) rfl
theorem f_8 : (("Weightlattice", 97, "Weightlattice$Splitter", "parts", "LWeightlattice$Sum;", "Weightlattice") : String × Nat × String × String × String × String) ∈ xnF := List.mem_of_getElem? (i := 8) rfl
theorem f_9 : (("Weightlattice", 106, "Weightlattice$Roots", "rho", "[J", "Weightlattice") : String × Nat × String × String × String × String) ∈ xnF := List.mem_of_getElem? (i := 9) rfl
theorem f_10 : (("Weightlattice", 114, "Weightlattice$Roots", "count", "I", "Weightlattice") : String × Nat × String × String × String × String) ∈ xnF := List.mem_of_getElem? (i := 10) rfl
theorem m_0 : (("WeightlatticeModel$ByHeight", 7, ⟨"WeightlatticeModel", "sum", "([I)I"⟩, "WeightlatticeModel") : String × Nat × MethodName × String) ∈ xnM := List.mem_of_getElem? (i := 0) rfl
theorem m_1 : (("WeightlatticeModel$ByHeight", 13, ⟨"WeightlatticeModel", "compare", "([I[I)I"⟩, "WeightlatticeModel") : String × Nat × MethodName × String) ∈ xnM := List.mem_of_getElem? (i := 1) rfl
theorem m_2 : (("WeightlatticeModel", 113, ⟨"WeightlatticeModel$ByHeight", "<init>", "()V"⟩, "WeightlatticeModel") : String × Nat × MethodName × String) ∈ xnM := List.mem_of_getElem? (i := 2) rfl
theorem i_0 : (("java/util/ArrayList", ⟨"java/util/List", "size", "()I"⟩, ⟨"java/util/ArrayList", "size", "()I"⟩) : String × MethodName × MethodName) ∈ xnI := List.mem_of_getElem? (i := 0) rfl
theorem i_1 : (("java/util/ArrayList", ⟨"java/util/List", "get", "(I)Ljava/lang/Object;"⟩, ⟨"java/util/ArrayList", "get", "(I)Ljava/lang/Object;"⟩) : String × MethodName × MethodName) ∈ xnI := List.mem_of_getElem? (i := 1) rfl
theorem i_2 : (("java/util/ArrayList", ⟨"java/util/List", "add", "(Ljava/lang/Object;)Z"⟩, ⟨"java/util/ArrayList", "add", "(Ljava/lang/Object;)Z"⟩) : String × MethodName × MethodName) ∈ xnI := List.mem_of_getElem? (i := 2) rfl
theorem i_3 : (("WeightlatticeModel$ByHeight", ⟨"java/util/Comparator", "compare", "(Ljava/lang/Object;Ljava/lang/Object;)I"⟩, ⟨"WeightlatticeModel$ByHeight", "compare", "(Ljava/lang/Object;Ljava/lang/Object;)I"⟩) : String × MethodName × MethodName) ∈ xnI := List.mem_of_getElem? (i := 3) rfl
theorem i_4 : (("java/util/ArrayList", ⟨"java/util/List", "clear", "()V"⟩, ⟨"java/util/ArrayList", "clear", "()V"⟩) : String × MethodName × MethodName) ∈ xnI := List.mem_of_getElem? (i := 4) rfl
theorem i_5 : (("java/util/ArrayList", ⟨"java/util/List", "sort", "(Ljava/util/Comparator;)V"⟩, ⟨"java/util/ArrayList", "sort", "(Ljava/util/Comparator;)V"⟩) : String × MethodName × MethodName) ∈ xnI := List.mem_of_getElem? (i := 5) rfl
theorem i_6 : (("java/util/ArrayList", ⟨"java/util/List", "iterator", "()Ljava/util/Iterator;"⟩, ⟨"java/util/ArrayList", "iterator", "()Ljava/util/Iterator;"⟩) : String × MethodName × MethodName) ∈ xnI := List.mem_of_getElem? (i := 6) rfl
theorem i_7 : (("java/util/ArrayList$Itr", ⟨"java/util/Iterator", "hasNext", "()Z"⟩, ⟨"java/util/ArrayList$Itr", "hasNext", "()Z"⟩) : String × MethodName × MethodName) ∈ xnI := List.mem_of_getElem? (i := 7) rfl
theorem i_8 : (("java/util/ArrayList$Itr", ⟨"java/util/Iterator", "next", "()Ljava/lang/Object;"⟩, ⟨"java/util/ArrayList$Itr", "next", "()Ljava/lang/Object;"⟩) : String × MethodName × MethodName) ∈ xnI := List.mem_of_getElem? (i := 8) rfl
theorem c_IO : (("[I", "java/lang/Object") : String × String) ∈ xnC := List.mem_of_getElem? (i := 0) rfl
theorem c_IC : (("[I", "java/lang/Cloneable") : String × String) ∈ xnC := List.mem_of_getElem? (i := 1) rfl
theorem c_E0 : ((x_en 0, x_en 0) : String × String) ∈ xnC := List.mem_of_getElem? (i := 2) rfl
theorem c_E1 : ((x_en 1, x_en 1) : String × String) ∈ xnC := List.mem_of_getElem? (i := 3) rfl
theorem g_thw0 : ∀ w ∈ (vx_atS "Weightlattice" 318 "java/lang/IllegalStateException" ["java/lang/RuntimeException", "java/lang/Exception"]).filter goodWord, w ∈ lw_tbl := by decide +kernel
theorem g_thr0 : ∀ w ∈ (vx_atS "Weightlattice" 318 "java/lang/IllegalStateException" ["java/lang/RuntimeException", "java/lang/Exception"]).filter goodWord, w ∈ xTb := fun w hw => x_word (g_thw0 w hw) (List.mem_filter.mp hw).2
theorem g_thn0 : ∀ w ∈ (vx_atS "Weightlattice" 318 "java/lang/IllegalStateException" ["java/lang/RuntimeException", "java/lang/Exception"]).filter (fun w => !goodWord w), w ∈ xnC.map (fun q => Cond.castable q.1 q.2) ++ xnD.map (fun q => Cond.declares q) := by decide +kernel
theorem g_tho0 : ∀ w ∈ Cond.classLink "Weightlattice" 314 "java/lang/IllegalStateException" :: Cond.initialized "java/lang/IllegalStateException" :: vx_atS "Weightlattice" 318 "java/lang/IllegalStateException" ["java/lang/RuntimeException", "java/lang/Exception"], vx_ot w = true := by decide +kernel
theorem g_thw1 : ∀ w ∈ (vx_atS "Weightlattice" 82 "java/lang/IllegalArgumentException" ["java/lang/RuntimeException", "java/lang/Exception"]).filter goodWord, w ∈ lw_tbl := by decide +kernel
theorem g_thr1 : ∀ w ∈ (vx_atS "Weightlattice" 82 "java/lang/IllegalArgumentException" ["java/lang/RuntimeException", "java/lang/Exception"]).filter goodWord, w ∈ xTb := fun w hw => x_word (g_thw1 w hw) (List.mem_filter.mp hw).2
theorem g_thn1 : ∀ w ∈ (vx_atS "Weightlattice" 82 "java/lang/IllegalArgumentException" ["java/lang/RuntimeException", "java/lang/Exception"]).filter (fun w => !goodWord w), w ∈ xnC.map (fun q => Cond.castable q.1 q.2) ++ xnD.map (fun q => Cond.declares q) := by decide +kernel
theorem g_tho1 : ∀ w ∈ Cond.classLink "Weightlattice" 78 "java/lang/IllegalArgumentException" :: Cond.initialized "java/lang/IllegalArgumentException" :: vx_atS "Weightlattice" 82 "java/lang/IllegalArgumentException" ["java/lang/RuntimeException", "java/lang/Exception"], vx_ot w = true := by decide +kernel
abbrev M_X3_addTimes : xM := (⟨"Weightlattice$Register", "addTimes", "([J[JI)V"⟩, prog_5_method_16_code, 8, (Option.none : Option Jvm.ClassFile.FieldType), [])
abbrev M_X13_isWrong : xM := (⟨"WeightlatticeModel", "isWrong", "(I)Z"⟩, prog_12_method_3_code, 2, (Option.some Jvm.ClassFile.FieldType.boolean), [])
abbrev M_X13_isBetween : xM := (⟨"WeightlatticeModel", "isBetween", "(III)Z"⟩, prog_12_method_4_code, 3, (Option.some Jvm.ClassFile.FieldType.boolean), [])
abbrev M_X3_isSame : xM := (⟨"Weightlattice$Register", "isSame", "([J[J)Z"⟩, prog_5_method_14_code, 3, (Option.some Jvm.ClassFile.FieldType.boolean), [])
abbrev M_J15_checkIndex_7cf53 : xM := (⟨"java/util/Objects", "checkIndex", "(II)I"⟩, prog_58_method_17_code, 2, (Option.some Jvm.ClassFile.FieldType.int), [])
abbrev M_J3_checkIndex_8e157 : xM := (⟨"jdk/internal/util/Preconditions", "checkIndex", "(IILjava/util/function/BiFunction;)I"⟩, prog_65_method_11_code, 3, (Option.some Jvm.ClassFile.FieldType.int), [])
abbrev M_Jx4a65c_elementData_915e3 : xM := (⟨"java/util/ArrayList", "elementData", "(I)Ljava/lang/Object;"⟩, prog_45_method_18_code, 2, (Option.some (Jvm.ClassFile.FieldType.object "java/lang/Object")), [])
abbrev M_Jx4a65c_get_915e3 : xM := (⟨"java/util/ArrayList", "get", "(I)Ljava/lang/Object;"⟩, prog_45_method_20_code, 2, (Option.some (Jvm.ClassFile.FieldType.object "java/lang/Object")), [])
abbrev M_Jx4a65c_size_8abf5 : xM := (⟨"java/util/ArrayList", "size", "()I"⟩, prog_45_method_8_code, 1, (Option.some Jvm.ClassFile.FieldType.int), [])
abbrev M_X13_mirrored : xM := (⟨"WeightlatticeModel", "mirrored", "(I[I)[I"⟩, prog_12_method_25_code, 5, (Option.some (Jvm.ClassFile.FieldType.array Jvm.ClassFile.FieldType.int)), [])
abbrev M_X3_mirrorAt : xM := (⟨"Weightlattice$Register", "mirrorAt", "(I)V"⟩, prog_5_method_8_code, 3, (Option.none : Option Jvm.ClassFile.FieldType), [])
abbrev M_X13_isNoSystem : xM := (⟨"WeightlatticeModel", "isNoSystem", "()Z"⟩, prog_12_method_5_code, 1, (Option.some Jvm.ClassFile.FieldType.boolean), [])
abbrev M_X9_requireSystem : xM := (⟨"Weightlattice", "requireSystem", "()V"⟩, prog_1_method_35_code, 1, (Option.none : Option Jvm.ClassFile.FieldType), [])
abbrev M_X13_isRegister : xM := (⟨"WeightlatticeModel", "isRegister", "(I)Z"⟩, prog_12_method_7_code, 2, (Option.some Jvm.ClassFile.FieldType.boolean), [])
abbrev M_X9_requireRegister : xM := (⟨"Weightlattice", "requireRegister", "(I)V"⟩, prog_1_method_38_code, 2, (Option.none : Option Jvm.ClassFile.FieldType), [])
abbrev M_X4_simpleSquare : xM := (⟨"Weightlattice$Roots", "simpleSquare", "(I)I"⟩, prog_6_method_6_code, 2, (Option.some Jvm.ClassFile.FieldType.int), [])
abbrev M_X3_write : xM := (⟨"Weightlattice$Register", "write", "(II)V"⟩, prog_5_method_3_code, 5, (Option.none : Option Jvm.ClassFile.FieldType), [])
abbrev M_X13_sameRow : xM := (⟨"WeightlatticeModel", "sameRow", "([I[I)Z"⟩, prog_12_method_79_code, 4, (Option.some Jvm.ClassFile.FieldType.boolean), [])
abbrev M_X13_isSimple : xM := (⟨"WeightlatticeModel", "isSimple", "(I)Z"⟩, prog_12_method_6_code, 2, (Option.some Jvm.ClassFile.FieldType.boolean), [])
abbrev M_X13_sum : xM := (⟨"WeightlatticeModel", "sum", "([I)I"⟩, prog_12_method_12_code, 6, (Option.some Jvm.ClassFile.FieldType.int), [])
abbrev M_X9_requireSimple : xM := (⟨"Weightlattice", "requireSimple", "(I)V"⟩, prog_1_method_36_code, 2, (Option.none : Option Jvm.ClassFile.FieldType), [])
abbrev M_L_set : xM := (⟨"WeightlatticeLaw", "set", "(LWeightlattice;III[J)I"⟩, method_16_code, 6, (Option.some Jvm.ClassFile.FieldType.int), [(0, 12, 15, 19), (0, 12, 19, 21), (0, 12, 23, 13)])
abbrev M_X13_isNoRegister : xM := (⟨"WeightlatticeModel", "isNoRegister", "([I)Z"⟩, prog_12_method_48_code, 7, (Option.some Jvm.ClassFile.FieldType.boolean), [])
abbrev M_X13_isPlace : xM := (⟨"WeightlatticeModel", "isPlace", "(II)Z"⟩, prog_12_method_45_code, 3, (Option.some Jvm.ClassFile.FieldType.boolean), [])
abbrev M_X13_set : xM := (⟨"WeightlatticeModel", "set", "(III)I"⟩, prog_12_method_46_code, 5, (Option.some Jvm.ClassFile.FieldType.int), [])
abbrev M_X3_low : xM := (⟨"Weightlattice$Register", "low", "(I)I"⟩, prog_5_method_4_code, 2, (Option.some Jvm.ClassFile.FieldType.int), [])
abbrev M_X9_set : xM := (⟨"Weightlattice", "set", "(III)I"⟩, prog_1_method_16_code, 5, (Option.some Jvm.ClassFile.FieldType.int), [])
abbrev M_L_act : xM := (⟨"WeightlatticeLaw", "act", "(LWeightlattice;I[J)I"⟩, method_18_code, 4, (Option.some Jvm.ClassFile.FieldType.int), [(0, 9, 12, 19), (0, 9, 15, 21)])
abbrev M_X13_act : xM := (⟨"WeightlatticeModel", "act", "(I)I"⟩, prog_12_method_49_code, 5, (Option.some Jvm.ClassFile.FieldType.int), [])
abbrev M_X13_acted : xM := (⟨"WeightlatticeModel", "acted", "([I)[I"⟩, prog_12_method_30_code, 4, (Option.some (Jvm.ClassFile.FieldType.array Jvm.ClassFile.FieldType.int)), [])
abbrev M_X3_become : xM := (⟨"Weightlattice$Register", "become", "(LWeightlattice$Register;)V"⟩, prog_5_method_5_code, 4, (Option.none : Option Jvm.ClassFile.FieldType), [])
abbrev M_X3_differences : xM := (⟨"Weightlattice$Register", "differences", "(LWeightlattice$Register;)I"⟩, prog_5_method_7_code, 4, (Option.some Jvm.ClassFile.FieldType.int), [])
abbrev M_X8_actOn_ : xM := (⟨"Weightlattice$Word", "actOn", "(LWeightlattice$Register;)V"⟩, prog_10_method_3_code, 3, (Option.none : Option Jvm.ClassFile.FieldType), [])
abbrev M_X9_act : xM := (⟨"Weightlattice", "act", "(I)I"⟩, prog_1_method_18_code, 2, (Option.some Jvm.ClassFile.FieldType.int), [])
abbrev M_X4_weightOf : xM := (⟨"Weightlattice$Roots", "weightOf", "(II)I"⟩, prog_6_method_9_code, 5, (Option.some Jvm.ClassFile.FieldType.int), [])
abbrev M_X4_sameAsCandidate : xM := (⟨"Weightlattice$Roots", "sameAsCandidate", "([I)Z"⟩, prog_6_method_11_code, 3, (Option.some Jvm.ClassFile.FieldType.boolean), [])
abbrev M_X4_climb : xM := (⟨"Weightlattice$Roots", "climb", "(II)V"⟩, prog_6_method_8_code, 5, (Option.none : Option Jvm.ClassFile.FieldType), [])
abbrev M_X13_find : xM := (⟨"WeightlatticeModel", "find", "(Ljava/util/List;[I)I"⟩, prog_12_method_13_code, 3, (Option.some Jvm.ClassFile.FieldType.int), [])
abbrev M_X13_lowest : xM := (⟨"WeightlatticeModel", "lowest", "([II)I"⟩, prog_12_method_51_code, 4, (Option.some Jvm.ClassFile.FieldType.int), [])
abbrev M_X3_isBelowZero : xM := (⟨"Weightlattice$Register", "isBelowZero", "([J)Z"⟩, prog_5_method_13_code, 1, (Option.some Jvm.ClassFile.FieldType.boolean), [])
abbrev M_Jx4a65c_add_72be8 : xM := (⟨"java/util/ArrayList", "add", "(Ljava/lang/Object;[Ljava/lang/Object;I)V"⟩, prog_45_method_24_code, 4, (Option.none : Option Jvm.ClassFile.FieldType), [])
abbrev M_Jx4a65c_add_9ea2d : xM := (⟨"java/util/ArrayList", "add", "(Ljava/lang/Object;)Z"⟩, prog_45_method_25_code, 2, (Option.some Jvm.ClassFile.FieldType.boolean), [])
abbrev M_X10_compare : xM := (⟨"WeightlatticeModel$ByHeight", "compare", "([I[I)I"⟩, prog_13_method_2_code, 3, (Option.some Jvm.ClassFile.FieldType.int), [])
abbrev M_X10_compare_ : xM := (⟨"WeightlatticeModel$ByHeight", "compare", "(Ljava/lang/Object;Ljava/lang/Object;)I"⟩, prog_13_method_3_code, 3, (Option.some Jvm.ClassFile.FieldType.int), [])
abbrev M_Jx35411_hasNext_aae02 : xM := (⟨"java/util/ArrayList$Itr", "hasNext", "()Z"⟩, prog_46_method_2_code, 1, (Option.some Jvm.ClassFile.FieldType.boolean), [])
abbrev M_Jx35411_checkForComodification_da8c8 : xM := (⟨"java/util/ArrayList$Itr", "checkForComodification", "()V"⟩, prog_46_method_6_code, 1, (Option.none : Option Jvm.ClassFile.FieldType), [])
abbrev M_Jx35411_next_0502b : xM := (⟨"java/util/ArrayList$Itr", "next", "()Ljava/lang/Object;"⟩, prog_46_method_3_code, 3, (Option.some (Jvm.ClassFile.FieldType.object "java/lang/Object")), [])
abbrev M_X13_pairing : xM := (⟨"WeightlatticeModel", "pairing", "([I[I)I"⟩, prog_12_method_26_code, 5, (Option.some Jvm.ClassFile.FieldType.int), [])
abbrev M_X13_squareOf_ : xM := (⟨"WeightlatticeModel", "squareOf", "([I)I"⟩, prog_12_method_18_code, 5, (Option.some Jvm.ClassFile.FieldType.int), [])
abbrev M_X3_liftOnce : xM := (⟨"Weightlattice$Register", "liftOnce", "()Z"⟩, prog_5_method_10_code, 2, (Option.some Jvm.ClassFile.FieldType.boolean), [])
abbrev M_X4_comesBefore : xM := (⟨"Weightlattice$Roots", "comesBefore", "(II)Z"⟩, prog_6_method_13_code, 4, (Option.some Jvm.ClassFile.FieldType.boolean), [])
abbrev M_X4_enterCandidate : xM := (⟨"Weightlattice$Roots", "enterCandidate", "()V"⟩, prog_6_method_10_code, 3, (Option.none : Option Jvm.ClassFile.FieldType), [])
abbrev M_X4_pair : xM := (⟨"Weightlattice$Roots", "pair", "([JI)J"⟩, prog_6_method_21_code, 6, (Option.some Jvm.ClassFile.FieldType.long), [])
abbrev M_X3_init : xM := (⟨"Weightlattice$Register", "<init>", "(LWeightlattice$Roots;)V"⟩, prog_5_method_1_code, 2, (Option.none : Option Jvm.ClassFile.FieldType), [])
abbrev M_X13_entry : xM := (⟨"WeightlatticeModel", "entry", "(CIII)I"⟩, prog_12_method_9_code, 6, (Option.some Jvm.ClassFile.FieldType.int), [])
abbrev M_X3_empty : xM := (⟨"Weightlattice$Register", "empty", "()V"⟩, prog_5_method_2_code, 2, (Option.none : Option Jvm.ClassFile.FieldType), [])
abbrev M_X4_plainEntry : xM := (⟨"Weightlattice$Roots", "plainEntry", "(II)I"⟩, prog_6_method_5_code, 3, (Option.some Jvm.ClassFile.FieldType.int), [])
abbrev M_Jx4a65c_clear_da8c8 : xM := (⟨"java/util/ArrayList", "clear", "()V"⟩, prog_45_method_40_code, 4, (Option.none : Option Jvm.ClassFile.FieldType), [])
abbrev M_Jx4a65c_init_da8c8 : xM := (⟨"java/util/ArrayList", "<init>", "()V"⟩, prog_45_method_2_code, 1, (Option.none : Option Jvm.ClassFile.FieldType), [])
abbrev M_Jxa1e45_init_da8c8 : xM := (⟨"java/util/AbstractCollection", "<init>", "()V"⟩, prog_43_method_1_code, 1, (Option.none : Option Jvm.ClassFile.FieldType), [])
abbrev M_Jxc12de_init_da8c8 : xM := (⟨"java/util/AbstractList", "<init>", "()V"⟩, prog_44_method_1_code, 1, (Option.none : Option Jvm.ClassFile.FieldType), [])
abbrev M_X6_init : xM := (⟨"Weightlattice$Sum", "<init>", "()V"⟩, prog_8_method_1_code, 1, (Option.none : Option Jvm.ClassFile.FieldType), [])
abbrev M_J9_abs_0f7a4 : xM := (⟨"java/lang/Math", "abs", "(I)I"⟩, prog_31_method_59_code, 1, (Option.some Jvm.ClassFile.FieldType.int), [])
abbrev M_J9_max_7cf53 : xM := (⟨"java/lang/Math", "max", "(II)I"⟩, prog_31_method_65_code, 2, (Option.some Jvm.ClassFile.FieldType.int), [])
abbrev M_Jx4a65c_grow_92f84 : xM := (⟨"java/util/ArrayList", "grow", "(I)[Ljava/lang/Object;"⟩, prog_45_method_6_code, 4, (Option.some (Jvm.ClassFile.FieldType.array (Jvm.ClassFile.FieldType.object "java/lang/Object"))), [])
abbrev M_Jx4a65c_grow_d5877 : xM := (⟨"java/util/ArrayList", "grow", "()[Ljava/lang/Object;"⟩, prog_45_method_7_code, 1, (Option.some (Jvm.ClassFile.FieldType.array (Jvm.ClassFile.FieldType.object "java/lang/Object"))), [])
abbrev M_L_put : xM := (⟨"WeightlatticeLaw", "put", "(LWeightlattice;I[J)I"⟩, method_9_code, 4, (Option.some Jvm.ClassFile.FieldType.int), [(0, 9, 12, 19), (0, 9, 15, 21), (0, 9, 18, 40)])
abbrev M_X13_put : xM := (⟨"WeightlatticeModel", "put", "(I)I"⟩, prog_12_method_32_code, 2, (Option.some Jvm.ClassFile.FieldType.int), [])
abbrev M_X13_squareOf : xM := (⟨"WeightlatticeModel", "squareOf", "(CII)I"⟩, prog_12_method_10_code, 3, (Option.some Jvm.ClassFile.FieldType.int), [])
abbrev M_X9_put : xM := (⟨"Weightlattice", "put", "(I)I"⟩, prog_1_method_8_code, 2, (Option.some Jvm.ClassFile.FieldType.int), [])
abbrev M_J7_fill_53178 : xM := (⟨"java/util/Arrays", "fill", "([II)V"⟩, prog_48_method_103_code, 4, (Option.none : Option Jvm.ClassFile.FieldType), [])
abbrev M_J7_rangeCheck_23922 : xM := (⟨"java/util/Arrays", "rangeCheck", "(III)V"⟩, prog_48_method_30_code, 3, (Option.none : Option Jvm.ClassFile.FieldType), [])
abbrev M_J7_sort_a871f : xM := (⟨"java/util/Arrays", "sort", "([Ljava/lang/Object;IILjava/util/Comparator;)V"⟩, prog_48_method_43_code, 4, (Option.none : Option Jvm.ClassFile.FieldType), [])
abbrev M_Jx35411_init_45d68 : xM := (⟨"java/util/ArrayList$Itr", "<init>", "(Ljava/util/ArrayList;)V"⟩, prog_46_method_1_code, 2, (Option.none : Option Jvm.ClassFile.FieldType), [])
abbrev M_Jx4a65c_iterator_32c93 : xM := (⟨"java/util/ArrayList", "iterator", "()Ljava/util/Iterator;"⟩, prog_45_method_55_code, 1, (Option.some (Jvm.ClassFile.FieldType.object "java/util/Iterator")), [])
abbrev M_Jx4a65c_sort_a3821 : xM := (⟨"java/util/ArrayList", "sort", "(Ljava/util/Comparator;)V"⟩, prog_45_method_66_code, 3, (Option.none : Option Jvm.ClassFile.FieldType), [])
abbrev M_Jxfee68_binarySort_68778 : xM := (⟨"java/util/TimSort", "binarySort", "([Ljava/lang/Object;IIILjava/util/Comparator;)V"⟩, prog_61_method_3_code, 9, (Option.none : Option Jvm.ClassFile.FieldType), [])
abbrev M_Jxfee68_countRunAndMakeAscending_9f01e : xM := (⟨"java/util/TimSort", "countRunAndMakeAscending", "([Ljava/lang/Object;IILjava/util/Comparator;)I"⟩, prog_61_method_4_code, 5, (Option.some Jvm.ClassFile.FieldType.int), [])
abbrev M_Jxfee68_sort_c7964 : xM := (⟨"java/util/TimSort", "sort", "([Ljava/lang/Object;IILjava/util/Comparator;[Ljava/lang/Object;II)V"⟩, prog_61_method_2_code, 12, (Option.none : Option Jvm.ClassFile.FieldType), [])
abbrev M_L_choose : xM := (⟨"WeightlatticeLaw", "choose", "(LWeightlattice;CI[J)I"⟩, method_3_code, 5, (Option.some Jvm.ClassFile.FieldType.int), [(0, 10, 13, 13)])
abbrev M_L_law : xM := (⟨"WeightlatticeLaw", "law", "([I)Z"⟩, code, 9, (Option.some Jvm.ClassFile.FieldType.boolean), [])
abbrev M_L_raise : xM := (⟨"WeightlatticeLaw", "raise", "(LWeightlattice;I[J)I"⟩, method_19_code, 4, (Option.some Jvm.ClassFile.FieldType.int), [(0, 9, 12, 19), (0, 9, 15, 21)])
abbrev M_X0_init : xM := (⟨"Weightlattice$Checker", "<init>", "(LWeightlattice$Roots;)V"⟩, prog_2_method_1_code, 2, (Option.none : Option Jvm.ClassFile.FieldType), [])
abbrev M_X10_init : xM := (⟨"WeightlatticeModel$ByHeight", "<init>", "()V"⟩, prog_13_method_1_code, 1, (Option.none : Option Jvm.ClassFile.FieldType), [])
abbrev M_X13_choose : xM := (⟨"WeightlatticeModel", "choose", "(CI)I"⟩, prog_12_method_11_code, 6, (Option.some Jvm.ClassFile.FieldType.int), [])
abbrev M_X13_compare : xM := (⟨"WeightlatticeModel", "compare", "([I[I)I"⟩, prog_12_method_15_code, 3, (Option.some Jvm.ClassFile.FieldType.int), [])
abbrev M_X13_findRoots : xM := (⟨"WeightlatticeModel", "findRoots", "()V"⟩, prog_12_method_14_code, 10, (Option.none : Option Jvm.ClassFile.FieldType), [])
abbrev M_X13_init : xM := (⟨"WeightlatticeModel", "<init>", "()V"⟩, prog_12_method_1_code, 1, (Option.none : Option Jvm.ClassFile.FieldType), [])
abbrev M_X13_lengthOf : xM := (⟨"WeightlatticeModel", "lengthOf", "([I)I"⟩, prog_12_method_31_code, 5, (Option.some Jvm.ClassFile.FieldType.int), [])
abbrev M_X13_raise : xM := (⟨"WeightlatticeModel", "raise", "(I)I"⟩, prog_12_method_50_code, 5, (Option.some Jvm.ClassFile.FieldType.int), [])
abbrev M_X13_rho : xM := (⟨"WeightlatticeModel", "rho", "()[I"⟩, prog_12_method_24_code, 2, (Option.some (Jvm.ClassFile.FieldType.array Jvm.ClassFile.FieldType.int)), [])
abbrev M_X13_thrown : xM := (⟨"WeightlatticeModel", "thrown", "()I"⟩, prog_12_method_2_code, 1, (Option.some Jvm.ClassFile.FieldType.int), [])
abbrev M_X2_forget : xM := (⟨"Weightlattice$Polynomials", "forget", "()V"⟩, prog_4_method_2_code, 1, (Option.none : Option Jvm.ClassFile.FieldType), [])
abbrev M_X2_init : xM := (⟨"Weightlattice$Polynomials", "<init>", "(LWeightlattice$Roots;)V"⟩, prog_4_method_1_code, 2, (Option.none : Option Jvm.ClassFile.FieldType), [])
abbrev M_X3_lift : xM := (⟨"Weightlattice$Register", "lift", "()I"⟩, prog_5_method_9_code, 2, (Option.some Jvm.ClassFile.FieldType.int), [])
abbrev M_X4_build : xM := (⟨"Weightlattice$Roots", "build", "(CI)V"⟩, prog_6_method_3_code, 4, (Option.none : Option Jvm.ClassFile.FieldType), [])
abbrev M_X4_fillMatrix : xM := (⟨"Weightlattice$Roots", "fillMatrix", "()V"⟩, prog_6_method_4_code, 3, (Option.none : Option Jvm.ClassFile.FieldType), [])
abbrev M_X4_findExponents : xM := (⟨"Weightlattice$Roots", "findExponents", "()V"⟩, prog_6_method_15_code, 4, (Option.none : Option Jvm.ClassFile.FieldType), [])
abbrev M_X4_findRoots : xM := (⟨"Weightlattice$Roots", "findRoots", "()V"⟩, prog_6_method_7_code, 3, (Option.none : Option Jvm.ClassFile.FieldType), [])
abbrev M_X4_hasSystem : xM := (⟨"Weightlattice$Roots", "hasSystem", "(CI)Z"⟩, prog_6_method_2_code, 2, (Option.some Jvm.ClassFile.FieldType.boolean), [])
abbrev M_X4_init : xM := (⟨"Weightlattice$Roots", "<init>", "()V"⟩, prog_6_method_1_code, 1, (Option.none : Option Jvm.ClassFile.FieldType), [])
abbrev M_X4_measureRoots : xM := (⟨"Weightlattice$Roots", "measureRoots", "()V"⟩, prog_6_method_14_code, 4, (Option.none : Option Jvm.ClassFile.FieldType), [])
abbrev M_X4_orbitSize : xM := (⟨"Weightlattice$Roots", "orbitSize", "([J)J"⟩, prog_6_method_24_code, 7, (Option.some Jvm.ClassFile.FieldType.long), [])
abbrev M_X4_sortRoots : xM := (⟨"Weightlattice$Roots", "sortRoots", "()V"⟩, prog_6_method_12_code, 5, (Option.none : Option Jvm.ClassFile.FieldType), [])
abbrev M_X5_init : xM := (⟨"Weightlattice$Splitter", "<init>", "(LWeightlattice$Roots;)V"⟩, prog_7_method_1_code, 2, (Option.none : Option Jvm.ClassFile.FieldType), [])
abbrev M_X6_empty : xM := (⟨"Weightlattice$Sum", "empty", "()V"⟩, prog_8_method_2_code, 1, (Option.none : Option Jvm.ClassFile.FieldType), [])
abbrev M_X7_forget : xM := (⟨"Weightlattice$Weights", "forget", "()V"⟩, prog_9_method_2_code, 1, (Option.none : Option Jvm.ClassFile.FieldType), [])
abbrev M_X7_init : xM := (⟨"Weightlattice$Weights", "<init>", "(LWeightlattice$Roots;)V"⟩, prog_9_method_1_code, 2, (Option.none : Option Jvm.ClassFile.FieldType), [])
abbrev M_X8_init : xM := (⟨"Weightlattice$Word", "<init>", "(LWeightlattice$Roots;)V"⟩, prog_10_method_1_code, 2, (Option.none : Option Jvm.ClassFile.FieldType), [])
abbrev M_X9_choose : xM := (⟨"Weightlattice", "choose", "(CI)I"⟩, prog_1_method_2_code, 4, (Option.some Jvm.ClassFile.FieldType.int), [])
abbrev M_X9_copy : xM := (⟨"Weightlattice", "copy", "([J[J)V"⟩, prog_1_method_47_code, 3, (Option.none : Option Jvm.ClassFile.FieldType), [])
abbrev M_X9_init : xM := (⟨"Weightlattice", "<init>", "()V"⟩, prog_1_method_1_code, 2, (Option.none : Option Jvm.ClassFile.FieldType), [])
abbrev M_X9_raise : xM := (⟨"Weightlattice", "raise", "(I)I"⟩, prog_1_method_19_code, 2, (Option.some Jvm.ClassFile.FieldType.int), [])
def xms : List xM := [M_X3_addTimes, M_X13_isWrong, M_X13_isBetween, M_X3_isSame, M_J15_checkIndex_7cf53, M_J3_checkIndex_8e157, M_Jx4a65c_elementData_915e3, M_Jx4a65c_get_915e3, M_Jx4a65c_size_8abf5, M_X13_mirrored, M_X3_mirrorAt, M_X13_isNoSystem, M_X9_requireSystem, M_X13_isRegister, M_X9_requireRegister, M_X4_simpleSquare, M_X3_write, M_X13_sameRow, M_X13_isSimple, M_X13_sum, M_X9_requireSimple, M_L_set, M_X13_isNoRegister, M_X13_isPlace, M_X13_set, M_X3_low, M_X9_set, M_L_act, M_X13_act, M_X13_acted, M_X3_become, M_X3_differences, M_X8_actOn_, M_X9_act, M_X4_weightOf, M_X4_sameAsCandidate, M_X4_climb, M_X13_find, M_X13_lowest, M_X3_isBelowZero, M_Jx4a65c_add_72be8, M_Jx4a65c_add_9ea2d, M_X10_compare, M_X10_compare_, M_Jx35411_hasNext_aae02, M_Jx35411_checkForComodification_da8c8, M_Jx35411_next_0502b, M_X13_pairing, M_X13_squareOf_, M_X3_liftOnce, M_X4_comesBefore, M_X4_enterCandidate, M_X4_pair, M_X3_init, M_X13_entry, M_X3_empty, M_X4_plainEntry, M_Jx4a65c_clear_da8c8, M_Jx4a65c_init_da8c8, M_Jxa1e45_init_da8c8, M_Jxc12de_init_da8c8, M_X6_init, M_J9_abs_0f7a4, M_J9_max_7cf53, M_Jx4a65c_grow_92f84, M_Jx4a65c_grow_d5877, M_L_put, M_X13_put, M_X13_squareOf, M_X9_put, M_J7_fill_53178, M_J7_rangeCheck_23922, M_J7_sort_a871f, M_Jx35411_init_45d68, M_Jx4a65c_iterator_32c93, M_Jx4a65c_sort_a3821, M_Jxfee68_binarySort_68778, M_Jxfee68_countRunAndMakeAscending_9f01e, M_Jxfee68_sort_c7964, M_L_choose, M_L_law, M_L_raise, M_X0_init, M_X10_init, M_X13_choose, M_X13_compare, M_X13_findRoots, M_X13_init, M_X13_lengthOf, M_X13_raise, M_X13_rho, M_X13_thrown, M_X2_forget, M_X2_init, M_X3_lift, M_X4_build, M_X4_fillMatrix, M_X4_findExponents, M_X4_findRoots, M_X4_hasSystem, M_X4_init, M_X4_measureRoots, M_X4_orbitSize, M_X4_sortRoots, M_X5_init, M_X6_empty, M_X7_forget, M_X7_init, M_X8_init, M_X9_choose, M_X9_copy, M_X9_init, M_X9_raise]
theorem u_X3_addTimes : xms[0]? = some M_X3_addTimes := rfl
theorem u_X13_isWrong : xms[1]? = some M_X13_isWrong := rfl
theorem u_X13_isBetween : xms[2]? = some M_X13_isBetween := rfl
theorem u_X3_isSame : xms[3]? = some M_X3_isSame := rfl
theorem u_J15_checkIndex_7cf53 : xms[4]? = some M_J15_checkIndex_7cf53 := rfl
theorem u_J3_checkIndex_8e157 : xms[5]? = some M_J3_checkIndex_8e157 := rfl
theorem u_Jx4a65c_elementData_915e3 : xms[6]? = some M_Jx4a65c_elementData_915e3 := rfl
theorem u_Jx4a65c_get_915e3 : xms[7]? = some M_Jx4a65c_get_915e3 := rfl
theorem u_Jx4a65c_size_8abf5 : xms[8]? = some M_Jx4a65c_size_8abf5 := rfl
theorem u_X13_mirrored : xms[9]? = some M_X13_mirrored := rfl
theorem u_X3_mirrorAt : xms[10]? = some M_X3_mirrorAt := rfl
theorem u_X13_isNoSystem : xms[11]? = some M_X13_isNoSystem := rfl
theorem u_X9_requireSystem : xms[12]? = some M_X9_requireSystem := rfl
theorem u_X13_isRegister : xms[13]? = some M_X13_isRegister := rfl
theorem u_X9_requireRegister : xms[14]? = some M_X9_requireRegister := rfl
theorem u_X4_simpleSquare : xms[15]? = some M_X4_simpleSquare := rfl
theorem u_X3_write : xms[16]? = some M_X3_write := rfl
theorem u_X13_sameRow : xms[17]? = some M_X13_sameRow := rfl
theorem u_X13_isSimple : xms[18]? = some M_X13_isSimple := rfl
theorem u_X13_sum : xms[19]? = some M_X13_sum := rfl
theorem u_X9_requireSimple : xms[20]? = some M_X9_requireSimple := rfl
theorem u_L_set : xms[21]? = some M_L_set := rfl
theorem u_X13_isNoRegister : xms[22]? = some M_X13_isNoRegister := rfl
theorem u_X13_isPlace : xms[23]? = some M_X13_isPlace := rfl
theorem u_X13_set : xms[24]? = some M_X13_set := rfl
theorem u_X3_low : xms[25]? = some M_X3_low := rfl
theorem u_X9_set : xms[26]? = some M_X9_set := rfl
theorem u_L_act : xms[27]? = some M_L_act := rfl
theorem u_X13_act : xms[28]? = some M_X13_act := rfl
theorem u_X13_acted : xms[29]? = some M_X13_acted := rfl
theorem u_X3_become : xms[30]? = some M_X3_become := rfl
theorem u_X3_differences : xms[31]? = some M_X3_differences := rfl
theorem u_X8_actOn_ : xms[32]? = some M_X8_actOn_ := rfl
theorem u_X9_act : xms[33]? = some M_X9_act := rfl
theorem u_X4_weightOf : xms[34]? = some M_X4_weightOf := rfl
theorem u_X4_sameAsCandidate : xms[35]? = some M_X4_sameAsCandidate := rfl
theorem u_X4_climb : xms[36]? = some M_X4_climb := rfl
theorem u_X13_find : xms[37]? = some M_X13_find := rfl
theorem u_X13_lowest : xms[38]? = some M_X13_lowest := rfl
theorem u_X3_isBelowZero : xms[39]? = some M_X3_isBelowZero := rfl
theorem u_Jx4a65c_add_72be8 : xms[40]? = some M_Jx4a65c_add_72be8 := rfl
theorem u_Jx4a65c_add_9ea2d : xms[41]? = some M_Jx4a65c_add_9ea2d := rfl
theorem u_X10_compare : xms[42]? = some M_X10_compare := rfl
theorem u_X10_compare_ : xms[43]? = some M_X10_compare_ := rfl
theorem u_Jx35411_hasNext_aae02 : xms[44]? = some M_Jx35411_hasNext_aae02 := rfl
theorem u_Jx35411_checkForComodification_da8c8 : xms[45]? = some M_Jx35411_checkForComodification_da8c8 := rfl
theorem u_Jx35411_next_0502b : xms[46]? = some M_Jx35411_next_0502b := rfl
theorem u_X13_pairing : xms[47]? = some M_X13_pairing := rfl
theorem u_X13_squareOf_ : xms[48]? = some M_X13_squareOf_ := rfl
theorem u_X3_liftOnce : xms[49]? = some M_X3_liftOnce := rfl
theorem u_X4_comesBefore : xms[50]? = some M_X4_comesBefore := rfl
theorem u_X4_enterCandidate : xms[51]? = some M_X4_enterCandidate := rfl
theorem u_X4_pair : xms[52]? = some M_X4_pair := rfl
theorem u_X3_init : xms[53]? = some M_X3_init := rfl
theorem u_X13_entry : xms[54]? = some M_X13_entry := rfl
theorem u_X3_empty : xms[55]? = some M_X3_empty := rfl
theorem u_X4_plainEntry : xms[56]? = some M_X4_plainEntry := rfl
theorem u_Jx4a65c_clear_da8c8 : xms[57]? = some M_Jx4a65c_clear_da8c8 := rfl
theorem u_Jx4a65c_init_da8c8 : xms[58]? = some M_Jx4a65c_init_da8c8 := rfl
theorem u_Jxa1e45_init_da8c8 : xms[59]? = some M_Jxa1e45_init_da8c8 := rfl
theorem u_Jxc12de_init_da8c8 : xms[60]? = some M_Jxc12de_init_da8c8 := rfl
theorem u_X6_init : xms[61]? = some M_X6_init := rfl
theorem u_J9_abs_0f7a4 : xms[62]? = some M_J9_abs_0f7a4 := rfl
theorem u_J9_max_7cf53 : xms[63]? = some M_J9_max_7cf53 := rfl
theorem u_Jx4a65c_grow_92f84 : xms[64]? = some M_Jx4a65c_grow_92f84 := rfl
theorem u_Jx4a65c_grow_d5877 : xms[65]? = some M_Jx4a65c_grow_d5877 := rfl
theorem u_L_put : xms[66]? = some M_L_put := rfl
theorem u_X13_put : xms[67]? = some M_X13_put := rfl
theorem u_X13_squareOf : xms[68]? = some M_X13_squareOf := rfl
theorem u_X9_put : xms[69]? = some M_X9_put := rfl
theorem u_J7_fill_53178 : xms[70]? = some M_J7_fill_53178 := rfl
theorem u_J7_rangeCheck_23922 : xms[71]? = some M_J7_rangeCheck_23922 := rfl
theorem u_J7_sort_a871f : xms[72]? = some M_J7_sort_a871f := rfl
theorem u_Jx35411_init_45d68 : xms[73]? = some M_Jx35411_init_45d68 := rfl
theorem u_Jx4a65c_iterator_32c93 : xms[74]? = some M_Jx4a65c_iterator_32c93 := rfl
theorem u_Jx4a65c_sort_a3821 : xms[75]? = some M_Jx4a65c_sort_a3821 := rfl
theorem u_Jxfee68_binarySort_68778 : xms[76]? = some M_Jxfee68_binarySort_68778 := rfl
theorem u_Jxfee68_countRunAndMakeAscending_9f01e : xms[77]? = some M_Jxfee68_countRunAndMakeAscending_9f01e := rfl
theorem u_Jxfee68_sort_c7964 : xms[78]? = some M_Jxfee68_sort_c7964 := rfl
theorem u_L_choose : xms[79]? = some M_L_choose := rfl
theorem u_L_law : xms[80]? = some M_L_law := rfl
theorem u_L_raise : xms[81]? = some M_L_raise := rfl
theorem u_X0_init : xms[82]? = some M_X0_init := rfl
theorem u_X10_init : xms[83]? = some M_X10_init := rfl
theorem u_X13_choose : xms[84]? = some M_X13_choose := rfl
theorem u_X13_compare : xms[85]? = some M_X13_compare := rfl
theorem u_X13_findRoots : xms[86]? = some M_X13_findRoots := rfl
theorem u_X13_init : xms[87]? = some M_X13_init := rfl
theorem u_X13_lengthOf : xms[88]? = some M_X13_lengthOf := rfl
theorem u_X13_raise : xms[89]? = some M_X13_raise := rfl
theorem u_X13_rho : xms[90]? = some M_X13_rho := rfl
theorem u_X13_thrown : xms[91]? = some M_X13_thrown := rfl
theorem u_X2_forget : xms[92]? = some M_X2_forget := rfl
theorem u_X2_init : xms[93]? = some M_X2_init := rfl
theorem u_X3_lift : xms[94]? = some M_X3_lift := rfl
theorem u_X4_build : xms[95]? = some M_X4_build := rfl
theorem u_X4_fillMatrix : xms[96]? = some M_X4_fillMatrix := rfl
theorem u_X4_findExponents : xms[97]? = some M_X4_findExponents := rfl
theorem u_X4_findRoots : xms[98]? = some M_X4_findRoots := rfl
theorem u_X4_hasSystem : xms[99]? = some M_X4_hasSystem := rfl
theorem u_X4_init : xms[100]? = some M_X4_init := rfl
theorem u_X4_measureRoots : xms[101]? = some M_X4_measureRoots := rfl
theorem u_X4_orbitSize : xms[102]? = some M_X4_orbitSize := rfl
theorem u_X4_sortRoots : xms[103]? = some M_X4_sortRoots := rfl
theorem u_X5_init : xms[104]? = some M_X5_init := rfl
theorem u_X6_empty : xms[105]? = some M_X6_empty := rfl
theorem u_X7_forget : xms[106]? = some M_X7_forget := rfl
theorem u_X7_init : xms[107]? = some M_X7_init := rfl
theorem u_X8_init : xms[108]? = some M_X8_init := rfl
theorem u_X9_choose : xms[109]? = some M_X9_choose := rfl
theorem u_X9_copy : xms[110]? = some M_X9_copy := rfl
theorem u_X9_init : xms[111]? = some M_X9_init := rfl
theorem u_X9_raise : xms[112]? = some M_X9_raise := rfl
theorem mo_X3_addTimes : x_Mok M_X3_addTimes := ⟨rfl, q_952, q_103, ⟨by decide, by decide⟩, by decide⟩
theorem mo_X13_isWrong : x_Mok M_X13_isWrong := ⟨rfl, q_1388, q_104, ⟨by decide, by decide⟩, by decide⟩
theorem mo_X13_isBetween : x_Mok M_X13_isBetween := ⟨rfl, q_1384, q_104, ⟨by decide, by decide⟩, by decide⟩
theorem mo_X3_isSame : x_Mok M_X3_isSame := ⟨rfl, q_959, q_103, ⟨by decide, by decide⟩, by decide⟩
theorem mo_J15_checkIndex_7cf53 : x_Mok M_J15_checkIndex_7cf53 := ⟨rfl, q_1519, q_116, ⟨by decide, by decide⟩, by decide⟩
theorem mo_J3_checkIndex_8e157 : x_Mok M_J3_checkIndex_8e157 := ⟨rfl, q_1522, q_117, ⟨by decide, by decide⟩, by decide⟩
theorem mo_Jx4a65c_elementData_915e3 : x_Mok M_Jx4a65c_elementData_915e3 := ⟨rfl, q_1526, q_107, ⟨by decide, by decide⟩, by decide⟩
theorem mo_Jx4a65c_get_915e3 : x_Mok M_Jx4a65c_get_915e3 := ⟨rfl, q_1516, q_107, ⟨by decide, by decide⟩, by decide⟩
theorem mo_Jx4a65c_size_8abf5 : x_Mok M_Jx4a65c_size_8abf5 := ⟨rfl, q_1507, q_107, ⟨by decide, by decide⟩, by decide⟩
theorem mo_X13_mirrored : x_Mok M_X13_mirrored := ⟨rfl, q_2276, q_104, ⟨by decide, by decide⟩, by decide⟩
theorem mo_X3_mirrorAt : x_Mok M_X3_mirrorAt := ⟨rfl, q_949, q_103, ⟨by decide, by decide⟩, by decide⟩
theorem mo_X13_isNoSystem : x_Mok M_X13_isNoSystem := ⟨rfl, q_2223, q_104, ⟨by decide, by decide⟩, by decide⟩
theorem mo_X9_requireSystem : x_Mok M_X9_requireSystem := ⟨rfl, q_658, q_95, ⟨by decide, by decide⟩, by decide⟩
theorem mo_X13_isRegister : x_Mok M_X13_isRegister := ⟨rfl, q_2344, q_104, ⟨by decide, by decide⟩, by decide⟩
theorem mo_X9_requireRegister : x_Mok M_X9_requireRegister := ⟨rfl, q_916, q_95, ⟨by decide, by decide⟩, by decide⟩
theorem mo_X4_simpleSquare : x_Mok M_X4_simpleSquare := ⟨rfl, q_586, q_96, ⟨by decide, by decide⟩, by decide⟩
theorem mo_X3_write : x_Mok M_X3_write := ⟨rfl, q_621, q_103, ⟨by decide, by decide⟩, by decide⟩
theorem mo_X13_sameRow : x_Mok M_X13_sameRow := ⟨rfl, q_1539, q_104, ⟨by decide, by decide⟩, by decide⟩
theorem mo_X13_isSimple : x_Mok M_X13_isSimple := ⟨rfl, q_2227, q_104, ⟨by decide, by decide⟩, by decide⟩
theorem mo_X13_sum : x_Mok M_X13_sum := ⟨rfl, q_2096, q_104, ⟨by decide, by decide⟩, by decide⟩
theorem mo_X9_requireSimple : x_Mok M_X9_requireSimple := ⟨rfl, q_678, q_95, ⟨by decide, by decide⟩, by decide⟩
theorem mo_L_set : x_MokH M_L_set := ⟨(fun h => nomatch h), q_908, q_94, ⟨by decide, by decide⟩, by decide⟩
theorem mo_X13_isNoRegister : x_Mok M_X13_isNoRegister := ⟨rfl, q_2356, q_104, ⟨by decide, by decide⟩, by decide⟩
theorem mo_X13_isPlace : x_Mok M_X13_isPlace := ⟨rfl, q_2340, q_104, ⟨by decide, by decide⟩, by decide⟩
theorem mo_X13_set : x_Mok M_X13_set := ⟨rfl, q_2336, q_104, ⟨by decide, by decide⟩, by decide⟩
theorem mo_X3_low : x_Mok M_X3_low := ⟨rfl, q_922, q_103, ⟨by decide, by decide⟩, by decide⟩
theorem mo_X9_set : x_Mok M_X9_set := ⟨rfl, q_912, q_95, ⟨by decide, by decide⟩, by decide⟩
theorem mo_L_act : x_MokH M_L_act := ⟨(fun h => nomatch h), q_933, q_94, ⟨by decide, by decide⟩, by decide⟩
theorem mo_X13_act : x_Mok M_X13_act := ⟨rfl, q_2352, q_104, ⟨by decide, by decide⟩, by decide⟩
theorem mo_X13_acted : x_Mok M_X13_acted := ⟨rfl, q_2272, q_104, ⟨by decide, by decide⟩, by decide⟩
theorem mo_X3_become : x_Mok M_X3_become := ⟨rfl, q_941, q_103, ⟨by decide, by decide⟩, by decide⟩
theorem mo_X3_differences : x_Mok M_X3_differences := ⟨rfl, q_956, q_103, ⟨by decide, by decide⟩, by decide⟩
theorem mo_X8_actOn_ : x_Mok M_X8_actOn_ := ⟨rfl, q_945, q_97, ⟨by decide, by decide⟩, by decide⟩
theorem mo_X9_act : x_Mok M_X9_act := ⟨rfl, q_937, q_95, ⟨by decide, by decide⟩, by decide⟩
theorem mo_X4_weightOf : x_Mok M_X4_weightOf := ⟨rfl, q_570, q_96, ⟨by decide, by decide⟩, by decide⟩
theorem mo_X4_sameAsCandidate : x_Mok M_X4_sameAsCandidate := ⟨rfl, q_562, q_96, ⟨by decide, by decide⟩, by decide⟩
theorem mo_X4_climb : x_Mok M_X4_climb := ⟨rfl, q_566, q_96, ⟨by decide, by decide⟩, by decide⟩
theorem mo_X13_find : x_Mok M_X13_find := ⟨rfl, q_1536, q_104, ⟨by decide, by decide⟩, by decide⟩
theorem mo_X13_lowest : x_Mok M_X13_lowest := ⟨rfl, q_2364, q_104, ⟨by decide, by decide⟩, by decide⟩
theorem mo_X3_isBelowZero : x_Mok M_X3_isBelowZero := ⟨rfl, q_977, q_103, ⟨by decide, by decide⟩, by decide⟩
theorem mo_Jx4a65c_add_72be8 : x_Mok M_Jx4a65c_add_72be8 := ⟨rfl, q_1431, q_107, ⟨by decide, by decide⟩, by decide⟩
theorem mo_Jx4a65c_add_9ea2d : x_Mok M_Jx4a65c_add_9ea2d := ⟨rfl, q_1427, q_107, ⟨by decide, by decide⟩, by decide⟩
theorem mo_X10_compare : x_Mok M_X10_compare := ⟨rfl, q_2093, q_118, ⟨by decide, by decide⟩, by decide⟩
theorem mo_X10_compare_ : x_Mok M_X10_compare_ := ⟨rfl, q_2088, q_118, ⟨by decide, by decide⟩, by decide⟩
theorem mo_Jx35411_hasNext_aae02 : x_Mok M_Jx35411_hasNext_aae02 := ⟨rfl, q_2156, q_130, ⟨by decide, by decide⟩, by decide⟩
theorem mo_Jx35411_checkForComodification_da8c8 : x_Mok M_Jx35411_checkForComodification_da8c8 := ⟨rfl, q_2174, q_130, ⟨by decide, by decide⟩, by decide⟩
theorem mo_Jx35411_next_0502b : x_Mok M_Jx35411_next_0502b := ⟨rfl, q_2168, q_130, ⟨by decide, by decide⟩, by decide⟩
theorem mo_X13_pairing : x_Mok M_X13_pairing := ⟨rfl, q_2191, q_104, ⟨by decide, by decide⟩, by decide⟩
theorem mo_X13_squareOf_ : x_Mok M_X13_squareOf_ := ⟨rfl, q_2195, q_104, ⟨by decide, by decide⟩, by decide⟩
theorem mo_X3_liftOnce : x_Mok M_X3_liftOnce := ⟨rfl, q_974, q_103, ⟨by decide, by decide⟩, by decide⟩
theorem mo_X4_comesBefore : x_Mok M_X4_comesBefore := ⟨rfl, q_578, q_96, ⟨by decide, by decide⟩, by decide⟩
theorem mo_X4_enterCandidate : x_Mok M_X4_enterCandidate := ⟨rfl, q_558, q_96, ⟨by decide, by decide⟩, by decide⟩
theorem mo_X4_pair : x_Mok M_X4_pair := ⟨rfl, q_598, q_96, ⟨by decide, by decide⟩, by decide⟩
theorem mo_X3_init : x_Mok M_X3_init := ⟨rfl, q_400, q_103, ⟨by decide, by decide⟩, by decide⟩
theorem mo_X13_entry : x_Mok M_X13_entry := ⟨rfl, q_1394, q_104, ⟨by decide, by decide⟩, by decide⟩
theorem mo_X3_empty : x_Mok M_X3_empty := ⟨rfl, q_617, q_103, ⟨by decide, by decide⟩, by decide⟩
theorem mo_X4_plainEntry : x_Mok M_X4_plainEntry := ⟨rfl, q_550, q_96, ⟨by decide, by decide⟩, by decide⟩
theorem mo_Jx4a65c_clear_da8c8 : x_Mok M_Jx4a65c_clear_da8c8 := ⟨rfl, q_1407, q_107, ⟨by decide, by decide⟩, by decide⟩
theorem mo_Jx4a65c_init_da8c8 : x_Mok M_Jx4a65c_init_da8c8 := ⟨rfl, q_1315, q_107, ⟨by decide, by decide⟩, by decide⟩
theorem mo_Jxa1e45_init_da8c8 : x_Mok M_Jxa1e45_init_da8c8 := ⟨rfl, q_1321, q_105, ⟨by decide, by decide⟩, by decide⟩
theorem mo_Jxc12de_init_da8c8 : x_Mok M_Jxc12de_init_da8c8 := ⟨rfl, q_1318, q_106, ⟨by decide, by decide⟩, by decide⟩
theorem mo_X6_init : x_Mok M_X6_init := ⟨rfl, q_342, q_101, ⟨by decide, by decide⟩, by decide⟩
theorem mo_J9_abs_0f7a4 : x_Mok M_J9_abs_0f7a4 := ⟨rfl, q_1397, q_112, ⟨by decide, by decide⟩, by decide⟩
theorem mo_J9_max_7cf53 : x_Mok M_J9_max_7cf53 := ⟨rfl, q_1445, q_112, ⟨by decide, by decide⟩, by decide⟩
theorem mo_Jx4a65c_grow_92f84 : x_Mok M_Jx4a65c_grow_92f84 := ⟨rfl, q_1439, q_107, ⟨by decide, by decide⟩, by decide⟩
theorem mo_Jx4a65c_grow_d5877 : x_Mok M_Jx4a65c_grow_d5877 := ⟨rfl, q_1435, q_107, ⟨by decide, by decide⟩, by decide⟩
theorem mo_L_put : x_MokH M_L_put := ⟨(fun h => nomatch h), q_727, q_94, ⟨by decide, by decide⟩, by decide⟩
theorem mo_X13_put : x_Mok M_X13_put := ⟨rfl, q_2260, q_104, ⟨by decide, by decide⟩, by decide⟩
theorem mo_X13_squareOf : x_Mok M_X13_squareOf := ⟨rfl, q_1391, q_104, ⟨by decide, by decide⟩, by decide⟩
theorem mo_X9_put : x_Mok M_X9_put := ⟨rfl, q_732, q_95, ⟨by decide, by decide⟩, by decide⟩
theorem mo_J7_fill_53178 : x_Mok M_J7_fill_53178 := ⟨rfl, q_1414, q_113, ⟨by decide, by decide⟩, by decide⟩
theorem mo_J7_rangeCheck_23922 : x_Mok M_J7_rangeCheck_23922 := ⟨rfl, q_1564, q_113, ⟨by decide, by decide⟩, by decide⟩
theorem mo_J7_sort_a871f : x_Mok M_J7_sort_a871f := ⟨rfl, q_1558, q_113, ⟨by decide, by decide⟩, by decide⟩
theorem mo_Jx35411_init_45d68 : x_Mok M_Jx35411_init_45d68 := ⟨rfl, q_2128, q_130, ⟨by decide, by decide⟩, by decide⟩
theorem mo_Jx4a65c_iterator_32c93 : x_Mok M_Jx4a65c_iterator_32c93 := ⟨rfl, q_2123, q_107, ⟨by decide, by decide⟩, by decide⟩
theorem mo_Jx4a65c_sort_a3821 : x_Mok M_Jx4a65c_sort_a3821 := ⟨rfl, q_1555, q_107, ⟨by decide, by decide⟩, by decide⟩
theorem mo_Jxfee68_binarySort_68778 : x_Mok M_Jxfee68_binarySort_68778 := ⟨rfl, q_2214, q_129, ⟨by decide, by decide⟩, by decide⟩
theorem mo_Jxfee68_countRunAndMakeAscending_9f01e : x_Mok M_Jxfee68_countRunAndMakeAscending_9f01e := ⟨rfl, q_2078, q_129, ⟨by decide, by decide⟩, by decide⟩
theorem mo_Jxfee68_sort_c7964 : x_Mok M_Jxfee68_sort_c7964 := ⟨rfl, q_2073, q_129, ⟨by decide, by decide⟩, by decide⟩
theorem mo_L_choose : x_MokH M_L_choose := ⟨(fun h => nomatch h), q_457, q_94, ⟨by decide, by decide⟩, by decide⟩
theorem mo_L_raise : x_MokH M_L_raise := ⟨(fun h => nomatch h), q_962, q_94, ⟨by decide, by decide⟩, by decide⟩
theorem mo_X0_init : x_Mok M_X0_init := ⟨rfl, q_375, q_102, ⟨by decide, by decide⟩, by decide⟩
theorem mo_X10_init : x_Mok M_X10_init := ⟨rfl, q_1544, q_118, ⟨by decide, by decide⟩, by decide⟩
theorem mo_X13_choose : x_Mok M_X13_choose := ⟨rfl, q_1381, q_104, ⟨by decide, by decide⟩, by decide⟩
theorem mo_X13_compare : x_Mok M_X13_compare := ⟨rfl, q_2099, q_104, ⟨by decide, by decide⟩, by decide⟩
theorem mo_X13_findRoots : x_Mok M_X13_findRoots := ⟨rfl, q_1418, q_104, ⟨by decide, by decide⟩, by decide⟩
theorem mo_X13_init : x_Mok M_X13_init := ⟨rfl, q_1308, q_104, ⟨by decide, by decide⟩, by decide⟩
theorem mo_X13_lengthOf : x_Mok M_X13_lengthOf := ⟨rfl, q_2114, q_104, ⟨by decide, by decide⟩, by decide⟩
theorem mo_X13_raise : x_Mok M_X13_raise := ⟨rfl, q_2360, q_104, ⟨by decide, by decide⟩, by decide⟩
theorem mo_X13_rho : x_Mok M_X13_rho := ⟨rfl, q_1411, q_104, ⟨by decide, by decide⟩, by decide⟩
theorem mo_X13_thrown : x_Mok M_X13_thrown := ⟨rfl, q_1377, q_104, ⟨by decide, by decide⟩, by decide⟩
theorem mo_X2_forget : x_Mok M_X2_forget := ⟨rfl, q_602, q_98, ⟨by decide, by decide⟩, by decide⟩
theorem mo_X2_init : x_Mok M_X2_init := ⟨rfl, q_256, q_98, ⟨by decide, by decide⟩, by decide⟩
theorem mo_X3_lift : x_Mok M_X3_lift := ⟨rfl, q_970, q_103, ⟨by decide, by decide⟩, by decide⟩
theorem mo_X4_build : x_Mok M_X4_build := ⟨rfl, q_542, q_96, ⟨by decide, by decide⟩, by decide⟩
theorem mo_X4_fillMatrix : x_Mok M_X4_fillMatrix := ⟨rfl, q_546, q_96, ⟨by decide, by decide⟩, by decide⟩
theorem mo_X4_findExponents : x_Mok M_X4_findExponents := ⟨rfl, q_590, q_96, ⟨by decide, by decide⟩, by decide⟩
theorem mo_X4_findRoots : x_Mok M_X4_findRoots := ⟨rfl, q_554, q_96, ⟨by decide, by decide⟩, by decide⟩
theorem mo_X4_hasSystem : x_Mok M_X4_hasSystem := ⟨rfl, q_465, q_96, ⟨by decide, by decide⟩, by decide⟩
theorem mo_X4_init : x_Mok M_X4_init := ⟨rfl, q_156, q_96, ⟨by decide, by decide⟩, by decide⟩
theorem mo_X4_measureRoots : x_Mok M_X4_measureRoots := ⟨rfl, q_582, q_96, ⟨by decide, by decide⟩, by decide⟩
theorem mo_X4_orbitSize : x_Mok M_X4_orbitSize := ⟨rfl, q_594, q_96, ⟨by decide, by decide⟩, by decide⟩
theorem mo_X4_sortRoots : x_Mok M_X4_sortRoots := ⟨rfl, q_574, q_96, ⟨by decide, by decide⟩, by decide⟩
theorem mo_X5_init : x_Mok M_X5_init := ⟨rfl, q_336, q_100, ⟨by decide, by decide⟩, by decide⟩
theorem mo_X6_empty : x_Mok M_X6_empty := ⟨rfl, q_610, q_101, ⟨by decide, by decide⟩, by decide⟩
theorem mo_X7_forget : x_Mok M_X7_forget := ⟨rfl, q_606, q_99, ⟨by decide, by decide⟩, by decide⟩
theorem mo_X7_init : x_Mok M_X7_init := ⟨rfl, q_287, q_99, ⟨by decide, by decide⟩, by decide⟩
theorem mo_X8_init : x_Mok M_X8_init := ⟨rfl, q_238, q_97, ⟨by decide, by decide⟩, by decide⟩
theorem mo_X9_choose : x_Mok M_X9_choose := ⟨rfl, q_462, q_95, ⟨by decide, by decide⟩, by decide⟩
theorem mo_X9_copy : x_Mok M_X9_copy := ⟨rfl, q_613, q_95, ⟨by decide, by decide⟩, by decide⟩
theorem mo_X9_init : x_Mok M_X9_init := ⟨rfl, q_148, q_95, ⟨by decide, by decide⟩, by decide⟩
theorem mo_X9_raise : x_Mok M_X9_raise := ⟨rfl, q_966, q_95, ⟨by decide, by decide⟩, by decide⟩
