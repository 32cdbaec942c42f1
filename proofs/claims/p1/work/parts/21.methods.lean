/-! THE WORDS THAT ARE NO GOOD ONES; THE METHODS -/
def xnF : List (String × Nat × String × String × String × String) := [("java/util/Arrays", 112, "java/util/Arrays$LegacyMergeSort", "userRequested", "Z", "java/util/Arrays"), ("Weightlattice", 89, "Weightlattice$Word", "size", "I", "Weightlattice"), ("Weightlattice", 97, "Weightlattice$Splitter", "parts", "LWeightlattice$Sum;", "Weightlattice"), ("Weightlattice", 106, "Weightlattice$Roots", "rho", "[J", "Weightlattice"), ("Weightlattice", 114, "Weightlattice$Roots", "count", "I", "Weightlattice"), ("Weightlattice", 311, "Weightlattice$Roots", "rank", "I", "Weightlattice"), ("Weightlattice", 290, "Weightlattice$Roots", "letter", "C", "Weightlattice")]
def xnM : List (String × Nat × MethodName × String) := [("WeightlatticeModel$ByHeight", 7, ⟨"WeightlatticeModel", "sum", "([I)I"⟩, "WeightlatticeModel"), ("WeightlatticeModel$ByHeight", 13, ⟨"WeightlatticeModel", "compare", "([I[I)I"⟩, "WeightlatticeModel"), ("WeightlatticeModel", 113, ⟨"WeightlatticeModel$ByHeight", "<init>", "()V"⟩, "WeightlatticeModel")]
def xnC : List (String × String) := [("[I", "java/lang/Object"), ("[I", "java/lang/Cloneable"), ("java/lang/IllegalStateException", "java/lang/IllegalStateException"), ("java/lang/IllegalArgumentException", "java/lang/IllegalArgumentException")]
def xnI : List (String × MethodName × MethodName) := [("java/util/ArrayList", ⟨"java/util/List", "size", "()I"⟩, ⟨"java/util/ArrayList", "size", "()I"⟩), ("java/util/ArrayList", ⟨"java/util/List", "get", "(I)Ljava/lang/Object;"⟩, ⟨"java/util/ArrayList", "get", "(I)Ljava/lang/Object;"⟩), ("WeightlatticeModel$ByHeight", ⟨"java/util/Comparator", "compare", "(Ljava/lang/Object;Ljava/lang/Object;)I"⟩, ⟨"WeightlatticeModel$ByHeight", "compare", "(Ljava/lang/Object;Ljava/lang/Object;)I"⟩), ("java/util/ArrayList", ⟨"java/util/List", "clear", "()V"⟩, ⟨"java/util/ArrayList", "clear", "()V"⟩), ("java/util/ArrayList", ⟨"java/util/List", "add", "(Ljava/lang/Object;)Z"⟩, ⟨"java/util/ArrayList", "add", "(Ljava/lang/Object;)Z"⟩), ("java/util/ArrayList", ⟨"java/util/List", "sort", "(Ljava/util/Comparator;)V"⟩, ⟨"java/util/ArrayList", "sort", "(Ljava/util/Comparator;)V"⟩)]
def xnD : List MethodName := [⟨"java/lang/RuntimeException", "<init>", "()V"⟩, ⟨"java/lang/RuntimeException", "<init>", "(Ljava/lang/String;)V"⟩, ⟨"java/lang/Exception", "<init>", "()V"⟩, ⟨"java/lang/Exception", "<init>", "(Ljava/lang/String;)V"⟩, ⟨"java/lang/Throwable", "<init>", "()V"⟩, ⟨"java/lang/Throwable", "<init>", "(Ljava/lang/String;)V"⟩, ⟨"java/lang/IndexOutOfBoundsException", "<init>", "()V"⟩, ⟨"java/lang/IndexOutOfBoundsException", "<init>", "(Ljava/lang/String;)V"⟩]
abbrev xZ (L : Nat) (P : xP) : xD := (xnF, xnM, xnC, xnI, xnD, L, P)
theorem f_0 : (("java/util/Arrays", 112, "java/util/Arrays$LegacyMergeSort", "userRequested", "Z", "java/util/Arrays") : String × Nat × String × String × String × String) ∈ xnF := List.mem_of_getElem? (i := 0) rfl
theorem f_1 : (("Weightlattice", 89, "Weightlattice$Word", "size", "I", "Weightlattice") : String × Nat × String × String × String × String) ∈ xnF := List.mem_of_getElem? (i := 1) rfl
theorem f_2 : (("Weightlattice", 97, "Weightlattice$Splitter", "parts", "LWeightlattice$Sum;", "Weightlattice") : String × Nat × String × String × String × String) ∈ xnF := List.mem_of_getElem? (i := 2) rfl
theorem f_3 : (("Weightlattice", 106, "Weightlattice$Roots", "rho", "[J", "Weightlattice") : String × Nat × String × String × String × String) ∈ xnF := List.mem_of_getElem? (i := 3) rfl
theorem f_4 : (("Weightlattice", 114, "Weightlattice$Roots", "count", "I", "Weightlattice") : String × Nat × String × String × String × String) ∈ xnF := List.mem_of_getElem? (i := 4) rfl
theorem f_5 : (("Weightlattice", 311, "Weightlattice$Roots", "rank", "I", "Weightlattice") : String × Nat × String × String × String × String) ∈ xnF := List.mem_of_getElem? (i := 5) rfl
theorem f_6 : (("Weightlattice", 290, "Weightlattice$Roots", "letter", "C", "Weightlattice") : String × Nat × String × String × String × String) ∈ xnF := List.mem_of_getElem? (i := 6) rfl
theorem m_0 : (("WeightlatticeModel$ByHeight", 7, ⟨"WeightlatticeModel", "sum", "([I)I"⟩, "WeightlatticeModel") : String × Nat × MethodName × String) ∈ xnM := List.mem_of_getElem? (i := 0) rfl
theorem m_1 : (("WeightlatticeModel$ByHeight", 13, ⟨"WeightlatticeModel", "compare", "([I[I)I"⟩, "WeightlatticeModel") : String × Nat × MethodName × String) ∈ xnM := List.mem_of_getElem? (i := 1) rfl
theorem m_2 : (("WeightlatticeModel", 113, ⟨"WeightlatticeModel$ByHeight", "<init>", "()V"⟩, "WeightlatticeModel") : String × Nat × MethodName × String) ∈ xnM := List.mem_of_getElem? (i := 2) rfl
theorem i_0 : (("java/util/ArrayList", ⟨"java/util/List", "size", "()I"⟩, ⟨"java/util/ArrayList", "size", "()I"⟩) : String × MethodName × MethodName) ∈ xnI := List.mem_of_getElem? (i := 0) rfl
theorem i_1 : (("java/util/ArrayList", ⟨"java/util/List", "get", "(I)Ljava/lang/Object;"⟩, ⟨"java/util/ArrayList", "get", "(I)Ljava/lang/Object;"⟩) : String × MethodName × MethodName) ∈ xnI := List.mem_of_getElem? (i := 1) rfl
theorem i_2 : (("WeightlatticeModel$ByHeight", ⟨"java/util/Comparator", "compare", "(Ljava/lang/Object;Ljava/lang/Object;)I"⟩, ⟨"WeightlatticeModel$ByHeight", "compare", "(Ljava/lang/Object;Ljava/lang/Object;)I"⟩) : String × MethodName × MethodName) ∈ xnI := List.mem_of_getElem? (i := 2) rfl
theorem i_3 : (("java/util/ArrayList", ⟨"java/util/List", "clear", "()V"⟩, ⟨"java/util/ArrayList", "clear", "()V"⟩) : String × MethodName × MethodName) ∈ xnI := List.mem_of_getElem? (i := 3) rfl
theorem i_4 : (("java/util/ArrayList", ⟨"java/util/List", "add", "(Ljava/lang/Object;)Z"⟩, ⟨"java/util/ArrayList", "add", "(Ljava/lang/Object;)Z"⟩) : String × MethodName × MethodName) ∈ xnI := List.mem_of_getElem? (i := 4) rfl
theorem i_5 : (("java/util/ArrayList", ⟨"java/util/List", "sort", "(Ljava/util/Comparator;)V"⟩, ⟨"java/util/ArrayList", "sort", "(Ljava/util/Comparator;)V"⟩) : String × MethodName × MethodName) ∈ xnI := List.mem_of_getElem? (i := 5) rfl
theorem c_IO : (("[I", "java/lang/Object") : String × String) ∈ xnC := List.mem_of_getElem? (i := 0) rfl
theorem c_IC : (("[I", "java/lang/Cloneable") : String × String) ∈ xnC := List.mem_of_getElem? (i := 1) rfl
theorem c_E0 : ((x_en 0, x_en 0) : String × String) ∈ xnC := List.mem_of_getElem? (i := 2) rfl
theorem c_E1 : ((x_en 1, x_en 1) : String × String) ∈ xnC := List.mem_of_getElem? (i := 3) rfl
theorem g_thw0 : ∀ w ∈ (vx_atS "Weightlattice" 318 "java/lang/IllegalStateException" ["java/lang/RuntimeException", "java/lang/Exception"]).filter goodWord, w ∈ lw_tbl := by decide +kernel
theorem g_thr0 : ∀ w ∈ (vx_atS "Weightlattice" 318 "java/lang/IllegalStateException" ["java/lang/RuntimeException", "java/lang/Exception"]).filter goodWord, w ∈ xTb := fun w hw => x_word (g_thw0 w hw) (List.mem_filter.mp hw).2
theorem g_thn0 : ∀ w ∈ (vx_atS "Weightlattice" 318 "java/lang/IllegalStateException" ["java/lang/RuntimeException", "java/lang/Exception"]).filter (fun w => !goodWord w), w ∈ xnC.map (fun q => Cond.castable q.1 q.2) ++ xnD.map (fun q => Cond.declares q) := by decide +kernel
theorem g_tho0 : ∀ w ∈ Cond.classLink "Weightlattice" 314 "java/lang/IllegalStateException" :: Cond.initialized "java/lang/IllegalStateException" :: vx_atS "Weightlattice" 318 "java/lang/IllegalStateException" ["java/lang/RuntimeException", "java/lang/Exception"], vx_ot w = true := by decide +kernel
theorem g_thw1 : ∀ w ∈ (vx_atS "Weightlattice" 82 "java/lang/IllegalArgumentException" ["java/lang/RuntimeException", "java/lang/Exception"]).filter goodWord, w ∈ lw_tbl := by decide +kernel
theorem g_thr1 : ∀ w ∈ (vx_atS "Weightlattice" 82 "java/lang/IllegalArgumentException" ["java/lang/RuntimeException", "java/lang/Exception"]).filter goodWord, w ∈ xTb := fun w hw => x_word (g_thw1 w hw) (List.mem_filter.mp hw).2
theorem g_thn1 : ∀ w ∈ (vx_atS "Weightlattice" 82 "java/lang/IllegalArgumentException" ["java/lang/RuntimeException", "java/lang/Exception"]).filter (fun w => !goodWord w), w ∈ xnC.map (fun q => Cond.castable q.1 q.2) ++ xnD.map (fun q => Cond.declares q) := by decide +kernel
theorem g_tho1 : ∀ w ∈ Cond.classLink "Weightlattice" 78 "java/lang/IllegalArgumentException" :: Cond.initialized "java/lang/IllegalArgumentException" :: vx_atS "Weightlattice" 82 "java/lang/IllegalArgumentException" ["java/lang/RuntimeException", "java/lang/Exception"], vx_ot w = true := by decide +kernel
abbrev M_J15_checkIndex_7cf53 : xM := (⟨"java/util/Objects", "checkIndex", "(II)I"⟩, prog_58_method_17_code, 2, (Option.some Jvm.ClassFile.FieldType.int), [])
abbrev M_J3_checkIndex_8e157 : xM := (⟨"jdk/internal/util/Preconditions", "checkIndex", "(IILjava/util/function/BiFunction;)I"⟩, prog_65_method_11_code, 3, (Option.some Jvm.ClassFile.FieldType.int), [])
abbrev M_Jx4a65c_elementData_915e3 : xM := (⟨"java/util/ArrayList", "elementData", "(I)Ljava/lang/Object;"⟩, prog_45_method_18_code, 2, (Option.some (Jvm.ClassFile.FieldType.object "java/lang/Object")), [])
abbrev M_Jx4a65c_get_915e3 : xM := (⟨"java/util/ArrayList", "get", "(I)Ljava/lang/Object;"⟩, prog_45_method_20_code, 2, (Option.some (Jvm.ClassFile.FieldType.object "java/lang/Object")), [])
abbrev M_Jx4a65c_size_8abf5 : xM := (⟨"java/util/ArrayList", "size", "()I"⟩, prog_45_method_8_code, 1, (Option.some Jvm.ClassFile.FieldType.int), [])
abbrev M_X13_sameRow : xM := (⟨"WeightlatticeModel", "sameRow", "([I[I)Z"⟩, prog_12_method_79_code, 4, (Option.some Jvm.ClassFile.FieldType.boolean), [])
abbrev M_X4_sameAsCandidate : xM := (⟨"Weightlattice$Roots", "sameAsCandidate", "([I)Z"⟩, prog_6_method_11_code, 3, (Option.some Jvm.ClassFile.FieldType.boolean), [])
abbrev M_X4_simpleSquare : xM := (⟨"Weightlattice$Roots", "simpleSquare", "(I)I"⟩, prog_6_method_6_code, 2, (Option.some Jvm.ClassFile.FieldType.int), [])
abbrev M_X4_weightOf : xM := (⟨"Weightlattice$Roots", "weightOf", "(II)I"⟩, prog_6_method_9_code, 5, (Option.some Jvm.ClassFile.FieldType.int), [])
abbrev M_X4_climb : xM := (⟨"Weightlattice$Roots", "climb", "(II)V"⟩, prog_6_method_8_code, 5, (Option.none : Option Jvm.ClassFile.FieldType), [])
abbrev M_X13_find : xM := (⟨"WeightlatticeModel", "find", "(Ljava/util/List;[I)I"⟩, prog_12_method_13_code, 3, (Option.some Jvm.ClassFile.FieldType.int), [])
abbrev M_X13_sum : xM := (⟨"WeightlatticeModel", "sum", "([I)I"⟩, prog_12_method_12_code, 6, (Option.some Jvm.ClassFile.FieldType.int), [])
abbrev M_X4_enterCandidate : xM := (⟨"Weightlattice$Roots", "enterCandidate", "()V"⟩, prog_6_method_10_code, 3, (Option.none : Option Jvm.ClassFile.FieldType), [])
abbrev M_X13_entry : xM := (⟨"WeightlatticeModel", "entry", "(CIII)I"⟩, prog_12_method_9_code, 6, (Option.some Jvm.ClassFile.FieldType.int), [])
abbrev M_X3_write : xM := (⟨"Weightlattice$Register", "write", "(II)V"⟩, prog_5_method_3_code, 5, (Option.none : Option Jvm.ClassFile.FieldType), [])
abbrev M_X4_plainEntry : xM := (⟨"Weightlattice$Roots", "plainEntry", "(II)I"⟩, prog_6_method_5_code, 3, (Option.some Jvm.ClassFile.FieldType.int), [])
abbrev M_Jx4a65c_add_72be8 : xM := (⟨"java/util/ArrayList", "add", "(Ljava/lang/Object;[Ljava/lang/Object;I)V"⟩, prog_45_method_24_code, 4, (Option.none : Option Jvm.ClassFile.FieldType), [])
abbrev M_Jx4a65c_add_9ea2d : xM := (⟨"java/util/ArrayList", "add", "(Ljava/lang/Object;)Z"⟩, prog_45_method_25_code, 2, (Option.some Jvm.ClassFile.FieldType.boolean), [])
abbrev M_X4_pair : xM := (⟨"Weightlattice$Roots", "pair", "([JI)J"⟩, prog_6_method_21_code, 6, (Option.some Jvm.ClassFile.FieldType.long), [])
abbrev M_X10_compare : xM := (⟨"WeightlatticeModel$ByHeight", "compare", "([I[I)I"⟩, prog_13_method_2_code, 3, (Option.some Jvm.ClassFile.FieldType.int), [])
abbrev M_X10_compare_ : xM := (⟨"WeightlatticeModel$ByHeight", "compare", "(Ljava/lang/Object;Ljava/lang/Object;)I"⟩, prog_13_method_3_code, 3, (Option.some Jvm.ClassFile.FieldType.int), [])
abbrev M_X4_comesBefore : xM := (⟨"Weightlattice$Roots", "comesBefore", "(II)Z"⟩, prog_6_method_13_code, 4, (Option.some Jvm.ClassFile.FieldType.boolean), [])
abbrev M_X13_compare : xM := (⟨"WeightlatticeModel", "compare", "([I[I)I"⟩, prog_12_method_15_code, 3, (Option.some Jvm.ClassFile.FieldType.int), [])
abbrev M_J9_abs_0f7a4 : xM := (⟨"java/lang/Math", "abs", "(I)I"⟩, prog_31_method_59_code, 1, (Option.some Jvm.ClassFile.FieldType.int), [])
abbrev M_X3_init : xM := (⟨"Weightlattice$Register", "<init>", "(LWeightlattice$Roots;)V"⟩, prog_5_method_1_code, 2, (Option.none : Option Jvm.ClassFile.FieldType), [])
abbrev M_X13_squareOf : xM := (⟨"WeightlatticeModel", "squareOf", "(CII)I"⟩, prog_12_method_10_code, 3, (Option.some Jvm.ClassFile.FieldType.int), [])
abbrev M_X3_empty : xM := (⟨"Weightlattice$Register", "empty", "()V"⟩, prog_5_method_2_code, 2, (Option.none : Option Jvm.ClassFile.FieldType), [])
abbrev M_Jx4a65c_clear_da8c8 : xM := (⟨"java/util/ArrayList", "clear", "()V"⟩, prog_45_method_40_code, 4, (Option.none : Option Jvm.ClassFile.FieldType), [])
abbrev M_Jx4a65c_init_da8c8 : xM := (⟨"java/util/ArrayList", "<init>", "()V"⟩, prog_45_method_2_code, 1, (Option.none : Option Jvm.ClassFile.FieldType), [])
abbrev M_Jxa1e45_init_da8c8 : xM := (⟨"java/util/AbstractCollection", "<init>", "()V"⟩, prog_43_method_1_code, 1, (Option.none : Option Jvm.ClassFile.FieldType), [])
abbrev M_Jxc12de_init_da8c8 : xM := (⟨"java/util/AbstractList", "<init>", "()V"⟩, prog_44_method_1_code, 1, (Option.none : Option Jvm.ClassFile.FieldType), [])
abbrev M_X6_init : xM := (⟨"Weightlattice$Sum", "<init>", "()V"⟩, prog_8_method_1_code, 1, (Option.none : Option Jvm.ClassFile.FieldType), [])
abbrev M_J9_max_7cf53 : xM := (⟨"java/lang/Math", "max", "(II)I"⟩, prog_31_method_65_code, 2, (Option.some Jvm.ClassFile.FieldType.int), [])
abbrev M_Jx4a65c_grow_92f84 : xM := (⟨"java/util/ArrayList", "grow", "(I)[Ljava/lang/Object;"⟩, prog_45_method_6_code, 4, (Option.some (Jvm.ClassFile.FieldType.array (Jvm.ClassFile.FieldType.object "java/lang/Object"))), [])
abbrev M_Jx4a65c_grow_d5877 : xM := (⟨"java/util/ArrayList", "grow", "()[Ljava/lang/Object;"⟩, prog_45_method_7_code, 1, (Option.some (Jvm.ClassFile.FieldType.array (Jvm.ClassFile.FieldType.object "java/lang/Object"))), [])
abbrev M_J7_fill_53178 : xM := (⟨"java/util/Arrays", "fill", "([II)V"⟩, prog_48_method_103_code, 4, (Option.none : Option Jvm.ClassFile.FieldType), [])
abbrev M_J7_rangeCheck_23922 : xM := (⟨"java/util/Arrays", "rangeCheck", "(III)V"⟩, prog_48_method_30_code, 3, (Option.none : Option Jvm.ClassFile.FieldType), [])
abbrev M_J7_sort_a871f : xM := (⟨"java/util/Arrays", "sort", "([Ljava/lang/Object;IILjava/util/Comparator;)V"⟩, prog_48_method_43_code, 4, (Option.none : Option Jvm.ClassFile.FieldType), [])
abbrev M_Jx4a65c_sort_a3821 : xM := (⟨"java/util/ArrayList", "sort", "(Ljava/util/Comparator;)V"⟩, prog_45_method_66_code, 3, (Option.none : Option Jvm.ClassFile.FieldType), [])
abbrev M_Jxfee68_binarySort_68778 : xM := (⟨"java/util/TimSort", "binarySort", "([Ljava/lang/Object;IIILjava/util/Comparator;)V"⟩, prog_61_method_3_code, 9, (Option.none : Option Jvm.ClassFile.FieldType), [])
abbrev M_Jxfee68_countRunAndMakeAscending_9f01e : xM := (⟨"java/util/TimSort", "countRunAndMakeAscending", "([Ljava/lang/Object;IILjava/util/Comparator;)I"⟩, prog_61_method_4_code, 5, (Option.some Jvm.ClassFile.FieldType.int), [])
abbrev M_Jxfee68_sort_c7964 : xM := (⟨"java/util/TimSort", "sort", "([Ljava/lang/Object;IILjava/util/Comparator;[Ljava/lang/Object;II)V"⟩, prog_61_method_2_code, 12, (Option.none : Option Jvm.ClassFile.FieldType), [])
abbrev M_L_choose : xM := (⟨"WeightlatticeLaw", "choose", "(LWeightlattice;CI[J)I"⟩, method_3_code, 5, (Option.some Jvm.ClassFile.FieldType.int), [(0, 10, 13, 13)])
abbrev M_L_law : xM := (⟨"WeightlatticeLaw", "law", "([I)Z"⟩, code, 9, (Option.some Jvm.ClassFile.FieldType.boolean), [])
abbrev M_X0_init : xM := (⟨"Weightlattice$Checker", "<init>", "(LWeightlattice$Roots;)V"⟩, prog_2_method_1_code, 2, (Option.none : Option Jvm.ClassFile.FieldType), [])
abbrev M_X10_init : xM := (⟨"WeightlatticeModel$ByHeight", "<init>", "()V"⟩, prog_13_method_1_code, 1, (Option.none : Option Jvm.ClassFile.FieldType), [])
abbrev M_X13_choose : xM := (⟨"WeightlatticeModel", "choose", "(CI)I"⟩, prog_12_method_11_code, 6, (Option.some Jvm.ClassFile.FieldType.int), [])
abbrev M_X13_findRoots : xM := (⟨"WeightlatticeModel", "findRoots", "()V"⟩, prog_12_method_14_code, 10, (Option.none : Option Jvm.ClassFile.FieldType), [])
abbrev M_X13_init : xM := (⟨"WeightlatticeModel", "<init>", "()V"⟩, prog_12_method_1_code, 1, (Option.none : Option Jvm.ClassFile.FieldType), [])
abbrev M_X13_isWrong : xM := (⟨"WeightlatticeModel", "isWrong", "(I)Z"⟩, prog_12_method_3_code, 2, (Option.some Jvm.ClassFile.FieldType.boolean), [])
abbrev M_X13_rho : xM := (⟨"WeightlatticeModel", "rho", "()[I"⟩, prog_12_method_24_code, 2, (Option.some (Jvm.ClassFile.FieldType.array Jvm.ClassFile.FieldType.int)), [])
abbrev M_X13_thrown : xM := (⟨"WeightlatticeModel", "thrown", "()I"⟩, prog_12_method_2_code, 1, (Option.some Jvm.ClassFile.FieldType.int), [])
abbrev M_X2_forget : xM := (⟨"Weightlattice$Polynomials", "forget", "()V"⟩, prog_4_method_2_code, 1, (Option.none : Option Jvm.ClassFile.FieldType), [])
abbrev M_X2_init : xM := (⟨"Weightlattice$Polynomials", "<init>", "(LWeightlattice$Roots;)V"⟩, prog_4_method_1_code, 2, (Option.none : Option Jvm.ClassFile.FieldType), [])
abbrev M_X4_build : xM := (⟨"Weightlattice$Roots", "build", "(CI)V"⟩, prog_6_method_3_code, 4, (Option.none : Option Jvm.ClassFile.FieldType), [])
abbrev M_X4_fillMatrix : xM := (⟨"Weightlattice$Roots", "fillMatrix", "()V"⟩, prog_6_method_4_code, 3, (Option.none : Option Jvm.ClassFile.FieldType), [])
abbrev M_X4_findExponents : xM := (⟨"Weightlattice$Roots", "findExponents", "()V"⟩, prog_6_method_15_code, 4, (Option.none : Option Jvm.ClassFile.FieldType), [])
abbrev M_X4_findRoots : xM := (⟨"Weightlattice$Roots", "findRoots", "()V"⟩, prog_6_method_7_code, 3, (Option.none : Option Jvm.ClassFile.FieldType), [])
abbrev M_X4_hasSystem : xM := (⟨"Weightlattice$Roots", "hasSystem", "(CI)Z"⟩, prog_6_method_2_code, 2, (Option.some Jvm.ClassFile.FieldType.boolean), [])
abbrev M_X4_init : xM := (⟨"Weightlattice$Roots", "<init>", "()V"⟩, prog_6_method_1_code, 1, (Option.none : Option Jvm.ClassFile.FieldType), [])
abbrev M_X4_measureRoots : xM := (⟨"Weightlattice$Roots", "measureRoots", "()V"⟩, prog_6_method_14_code, 4, (Option.none : Option Jvm.ClassFile.FieldType), [])
abbrev M_X4_orbitSize : xM := (⟨"Weightlattice$Roots", "orbitSize", "([J)J"⟩, prog_6_method_24_code, 7, (Option.some Jvm.ClassFile.FieldType.long), [])
abbrev M_X4_sortRoots : xM := (⟨"Weightlattice$Roots", "sortRoots", "()V"⟩, prog_6_method_12_code, 5, (Option.none : Option Jvm.ClassFile.FieldType), [])
abbrev M_X5_init : xM := (⟨"Weightlattice$Splitter", "<init>", "(LWeightlattice$Roots;)V"⟩, prog_7_method_1_code, 2, (Option.none : Option Jvm.ClassFile.FieldType), [])
abbrev M_X6_empty : xM := (⟨"Weightlattice$Sum", "empty", "()V"⟩, prog_8_method_2_code, 1, (Option.none : Option Jvm.ClassFile.FieldType), [])
abbrev M_X7_forget : xM := (⟨"Weightlattice$Weights", "forget", "()V"⟩, prog_9_method_2_code, 1, (Option.none : Option Jvm.ClassFile.FieldType), [])
abbrev M_X7_init : xM := (⟨"Weightlattice$Weights", "<init>", "(LWeightlattice$Roots;)V"⟩, prog_9_method_1_code, 2, (Option.none : Option Jvm.ClassFile.FieldType), [])
abbrev M_X8_init : xM := (⟨"Weightlattice$Word", "<init>", "(LWeightlattice$Roots;)V"⟩, prog_10_method_1_code, 2, (Option.none : Option Jvm.ClassFile.FieldType), [])
abbrev M_X9_choose : xM := (⟨"Weightlattice", "choose", "(CI)I"⟩, prog_1_method_2_code, 4, (Option.some Jvm.ClassFile.FieldType.int), [])
abbrev M_X9_copy : xM := (⟨"Weightlattice", "copy", "([J[J)V"⟩, prog_1_method_47_code, 3, (Option.none : Option Jvm.ClassFile.FieldType), [])
abbrev M_X9_init : xM := (⟨"Weightlattice", "<init>", "()V"⟩, prog_1_method_1_code, 2, (Option.none : Option Jvm.ClassFile.FieldType), [])
abbrev M_J7_copyOf_1904c : xM := (⟨"java/util/Arrays", "copyOf", "([Ljava/lang/Object;I)[Ljava/lang/Object;"⟩, prog_48_method_119_code, 2, (Option.some (Jvm.ClassFile.FieldType.array (Jvm.ClassFile.FieldType.object "java/lang/Object"))), [])
abbrev M_J7_copyOf_6403c : xM := (⟨"java/util/Arrays", "copyOf", "([Ljava/lang/Object;ILjava/lang/Class;)[Ljava/lang/Object;"⟩, prog_48_method_120_code, 4, (Option.some (Jvm.ClassFile.FieldType.array (Jvm.ClassFile.FieldType.object "java/lang/Object"))), [])
abbrev M_J8_newLength_cabcc : xM := (⟨"jdk/internal/util/ArraysSupport", "newLength", "(III)I"⟩, prog_64_method_27_code, 4, (Option.some Jvm.ClassFile.FieldType.int), [])
abbrev M_J9_min_7cf53 : xM := (⟨"java/lang/Math", "min", "(II)I"⟩, prog_31_method_69_code, 2, (Option.some Jvm.ClassFile.FieldType.int), [])
abbrev M_X13_isBetween : xM := (⟨"WeightlatticeModel", "isBetween", "(III)Z"⟩, prog_12_method_4_code, 3, (Option.some Jvm.ClassFile.FieldType.boolean), [])
abbrev M_L_act : xM := (⟨"WeightlatticeLaw", "act", "(LWeightlattice;I[J)I"⟩, method_18_code, 4, (Option.some Jvm.ClassFile.FieldType.int), [(0, 9, 12, 19), (0, 9, 15, 21)])
abbrev M_L_branch : xM := (⟨"WeightlatticeLaw", "branch", "(LWeightlattice;II[J)I"⟩, method_28_code, 5, (Option.some Jvm.ClassFile.FieldType.int), [(0, 10, 13, 19), (0, 10, 17, 21), (0, 10, 21, 40), (0, 10, 25, 95)])
abbrev M_L_coefficient : xM := (⟨"WeightlatticeLaw", "coefficient", "(LWeightlattice;II[J)I"⟩, method_5_code, 5, (Option.some Jvm.ClassFile.FieldType.int), [(0, 10, 13, 19), (0, 10, 17, 21)])
abbrev M_L_dimension : xM := (⟨"WeightlatticeLaw", "dimension", "(LWeightlattice;I[J)I"⟩, method_23_code, 4, (Option.some Jvm.ClassFile.FieldType.int), [(0, 8, 11, 19), (0, 8, 14, 21), (0, 8, 17, 40)])
abbrev M_L_dominant : xM := (⟨"WeightlatticeLaw", "dominant", "(LWeightlattice;I[J)I"⟩, method_25_code, 4, (Option.some Jvm.ClassFile.FieldType.int), [(0, 9, 12, 19), (0, 9, 15, 21), (0, 9, 18, 40), (0, 9, 21, 95)])
abbrev M_L_exponent : xM := (⟨"WeightlatticeLaw", "exponent", "(LWeightlattice;I[J)I"⟩, method_7_code, 4, (Option.some Jvm.ClassFile.FieldType.int), [(0, 9, 12, 19), (0, 9, 15, 21)])
abbrev M_L_fuse : xM := (⟨"WeightlatticeLaw", "fuse", "(LWeightlattice;III[J)I"⟩, method_27_code, 6, (Option.some Jvm.ClassFile.FieldType.int), [(0, 12, 15, 19), (0, 12, 19, 21), (0, 12, 23, 40), (0, 12, 27, 13), (0, 12, 31, 95)])
abbrev M_L_get : xM := (⟨"WeightlatticeLaw", "get", "(LWeightlattice;II[J)I"⟩, method_17_code, 5, (Option.some Jvm.ClassFile.FieldType.int), [(0, 10, 13, 19), (0, 10, 17, 21)])
abbrev M_L_goesDown : xM := (⟨"WeightlatticeLaw", "goesDown", "(LWeightlattice;IZ[J)I"⟩, method_12_code, 5, (Option.some Jvm.ClassFile.FieldType.int), [(0, 17, 20, 19), (0, 17, 24, 21)])
abbrev M_L_isBelow : xM := (⟨"WeightlatticeLaw", "isBelow", "(LWeightlattice;[J)I"⟩, method_14_code, 3, (Option.some Jvm.ClassFile.FieldType.int), [(0, 15, 18, 19)])
abbrev M_L_isConsistent : xM := (⟨"WeightlatticeLaw", "isConsistent", "(LWeightlattice;[J)I"⟩, method_33_code, 3, (Option.some Jvm.ClassFile.FieldType.int), [(0, 15, 18, 19)])
abbrev M_L_isLower : xM := (⟨"WeightlatticeLaw", "isLower", "(LWeightlattice;II[J)I"⟩, method_22_code, 5, (Option.some Jvm.ClassFile.FieldType.int), [(0, 17, 20, 19), (0, 17, 24, 21)])
abbrev M_L_keep : xM := (⟨"WeightlatticeLaw", "keep", "(LWeightlattice;[J)I"⟩, method_13_code, 3, (Option.some Jvm.ClassFile.FieldType.int), [(0, 8, 11, 19)])
abbrev M_L_length : xM := (⟨"WeightlatticeLaw", "length", "(LWeightlattice;[J)I"⟩, method_10_code, 3, (Option.some Jvm.ClassFile.FieldType.int), [(0, 8, 11, 19)])
abbrev M_L_matrix : xM := (⟨"WeightlatticeLaw", "matrix", "(LWeightlattice;II[J)I"⟩, method_4_code, 5, (Option.some Jvm.ClassFile.FieldType.int), [(0, 10, 13, 19), (0, 10, 17, 21)])
abbrev M_L_meanLength : xM := (⟨"WeightlatticeLaw", "meanLength", "(LWeightlattice;[D)I"⟩, method_31_code, 3, (Option.some Jvm.ClassFile.FieldType.int), [(0, 8, 11, 19)])
abbrev M_L_multiplicity : xM := (⟨"WeightlatticeLaw", "multiplicity", "(LWeightlattice;II[J)I"⟩, method_24_code, 5, (Option.some Jvm.ClassFile.FieldType.int), [(0, 10, 13, 19), (0, 10, 17, 21), (0, 10, 21, 40), (0, 10, 25, 95)])
abbrev M_L_multiply : xM := (⟨"WeightlatticeLaw", "multiply", "(LWeightlattice;II[J)I"⟩, method_26_code, 5, (Option.some Jvm.ClassFile.FieldType.int), [(0, 10, 13, 19), (0, 10, 17, 21), (0, 10, 21, 40), (0, 10, 25, 95)])
abbrev M_L_orbit : xM := (⟨"WeightlatticeLaw", "orbit", "(LWeightlattice;I[J)I"⟩, method_20_code, 4, (Option.some Jvm.ClassFile.FieldType.int), [(0, 9, 12, 19), (0, 9, 15, 21)])
abbrev M_L_order : xM := (⟨"WeightlatticeLaw", "order", "(LWeightlattice;[J)I"⟩, method_8_code, 3, (Option.some Jvm.ClassFile.FieldType.int), [(0, 7, 10, 19)])
abbrev M_L_pairing : xM := (⟨"WeightlatticeLaw", "pairing", "(LWeightlattice;II[J)I"⟩, method_21_code, 5, (Option.some Jvm.ClassFile.FieldType.int), [(0, 10, 13, 19), (0, 10, 17, 21)])
abbrev M_L_partAt : xM := (⟨"WeightlatticeLaw", "partAt", "(LWeightlattice;II[J)I"⟩, method_29_code, 5, (Option.some Jvm.ClassFile.FieldType.int), [(0, 10, 13, 19), (0, 10, 17, 21)])
abbrev M_L_polynomial : xM := (⟨"WeightlatticeLaw", "polynomial", "(LWeightlattice;I[J)I"⟩, method_15_code, 4, (Option.some Jvm.ClassFile.FieldType.int), [(0, 9, 12, 19), (0, 9, 15, 13), (0, 9, 18, 40), (0, 9, 21, 63)])
abbrev M_L_put : xM := (⟨"WeightlatticeLaw", "put", "(LWeightlattice;I[J)I"⟩, method_9_code, 4, (Option.some Jvm.ClassFile.FieldType.int), [(0, 9, 12, 19), (0, 9, 15, 21), (0, 9, 18, 40)])
abbrev M_L_raise : xM := (⟨"WeightlatticeLaw", "raise", "(LWeightlattice;I[J)I"⟩, method_19_code, 4, (Option.some Jvm.ClassFile.FieldType.int), [(0, 9, 12, 19), (0, 9, 15, 21)])
abbrev M_L_ratio : xM := (⟨"WeightlatticeLaw", "ratio", "(LWeightlattice;II[D)I"⟩, method_32_code, 5, (Option.some Jvm.ClassFile.FieldType.int), [(0, 9, 12, 19), (0, 9, 16, 21), (0, 9, 20, 40)])
abbrev M_L_reducedAt : xM := (⟨"WeightlatticeLaw", "reducedAt", "(LWeightlattice;I[J)I"⟩, method_11_code, 4, (Option.some Jvm.ClassFile.FieldType.int), [(0, 9, 12, 19), (0, 9, 15, 21)])
abbrev M_L_set : xM := (⟨"WeightlatticeLaw", "set", "(LWeightlattice;III[J)I"⟩, method_16_code, 6, (Option.some Jvm.ClassFile.FieldType.int), [(0, 12, 15, 19), (0, 12, 19, 21), (0, 12, 23, 13)])
abbrev M_L_square : xM := (⟨"WeightlatticeLaw", "square", "(LWeightlattice;I[J)I"⟩, method_6_code, 4, (Option.some Jvm.ClassFile.FieldType.int), [(0, 9, 12, 19), (0, 9, 15, 21)])
abbrev M_L_times : xM := (⟨"WeightlatticeLaw", "times", "(LWeightlattice;I[J)I"⟩, method_30_code, 4, (Option.some Jvm.ClassFile.FieldType.int), [(0, 9, 12, 19), (0, 9, 15, 21)])
abbrev M_X13_act : xM := (⟨"WeightlatticeModel", "act", "(I)I"⟩, prog_12_method_49_code, 5, (Option.some Jvm.ClassFile.FieldType.int), [])
abbrev M_X13_branch : xM := (⟨"WeightlatticeModel", "branch", "(II)I"⟩, prog_12_method_71_code, 4, (Option.some Jvm.ClassFile.FieldType.int), [])
abbrev M_X13_clear : xM := (⟨"WeightlatticeModel", "clear", "()I"⟩, prog_12_method_33_code, 2, (Option.some Jvm.ClassFile.FieldType.int), [])
abbrev M_X13_coefficient : xM := (⟨"WeightlatticeModel", "coefficient", "(II)I"⟩, prog_12_method_17_code, 3, (Option.some Jvm.ClassFile.FieldType.int), [])
abbrev M_X13_dimension : xM := (⟨"WeightlatticeModel", "dimension", "(I)J"⟩, prog_12_method_60_code, 2, (Option.some Jvm.ClassFile.FieldType.long), [])
abbrev M_X13_dominant : xM := (⟨"WeightlatticeModel", "dominant", "(I)I"⟩, prog_12_method_66_code, 5, (Option.some Jvm.ClassFile.FieldType.int), [])
abbrev M_X13_exponent : xM := (⟨"WeightlatticeModel", "exponent", "(I)I"⟩, prog_12_method_21_code, 2, (Option.some Jvm.ClassFile.FieldType.int), [])
abbrev M_X13_fuse : xM := (⟨"WeightlatticeModel", "fuse", "(III)I"⟩, prog_12_method_70_code, 4, (Option.some Jvm.ClassFile.FieldType.int), [])
abbrev M_X13_get : xM := (⟨"WeightlatticeModel", "get", "(II)I"⟩, prog_12_method_47_code, 3, (Option.some Jvm.ClassFile.FieldType.int), [])
abbrev M_X13_goesDown : xM := (⟨"WeightlatticeModel", "goesDown", "(IZ)Z"⟩, prog_12_method_36_code, 4, (Option.some Jvm.ClassFile.FieldType.boolean), [])
abbrev M_X13_isBelow_ : xM := (⟨"WeightlatticeModel", "isBelow", "()Z"⟩, prog_12_method_39_code, 1, (Option.some Jvm.ClassFile.FieldType.boolean), [])
abbrev M_X13_isConsistent : xM := (⟨"WeightlatticeModel", "isConsistent", "()Z"⟩, prog_12_method_78_code, 1, (Option.some Jvm.ClassFile.FieldType.boolean), [])
abbrev M_X13_isLower : xM := (⟨"WeightlatticeModel", "isLower", "(II)Z"⟩, prog_12_method_56_code, 4, (Option.some Jvm.ClassFile.FieldType.boolean), [])
abbrev M_X13_isNoRegister : xM := (⟨"WeightlatticeModel", "isNoRegister", "([I)Z"⟩, prog_12_method_48_code, 7, (Option.some Jvm.ClassFile.FieldType.boolean), [])
abbrev M_X13_isNoSystem : xM := (⟨"WeightlatticeModel", "isNoSystem", "()Z"⟩, prog_12_method_5_code, 1, (Option.some Jvm.ClassFile.FieldType.boolean), [])
abbrev M_X13_isNotDominant : xM := (⟨"WeightlatticeModel", "isNotDominant", "([I)Z"⟩, prog_12_method_59_code, 11, (Option.some Jvm.ClassFile.FieldType.boolean), [])
abbrev M_X13_keep : xM := (⟨"WeightlatticeModel", "keep", "()I"⟩, prog_12_method_37_code, 2, (Option.some Jvm.ClassFile.FieldType.int), [])
abbrev M_X13_length : xM := (⟨"WeightlatticeModel", "length", "()I"⟩, prog_12_method_34_code, 1, (Option.some Jvm.ClassFile.FieldType.int), [])
abbrev M_X13_matrix : xM := (⟨"WeightlatticeModel", "matrix", "(II)I"⟩, prog_12_method_16_code, 3, (Option.some Jvm.ClassFile.FieldType.int), [])
abbrev M_X13_meanLength : xM := (⟨"WeightlatticeModel", "meanLength", "()F"⟩, prog_12_method_75_code, 1, (Option.some Jvm.ClassFile.FieldType.float), [])
abbrev M_X13_multiplicity_ : xM := (⟨"WeightlatticeModel", "multiplicity", "(II)I"⟩, prog_12_method_65_code, 5, (Option.some Jvm.ClassFile.FieldType.int), [])
abbrev M_X13_multiply : xM := (⟨"WeightlatticeModel", "multiply", "(II)I"⟩, prog_12_method_68_code, 3, (Option.some Jvm.ClassFile.FieldType.int), [])
abbrev M_X13_orbit : xM := (⟨"WeightlatticeModel", "orbit", "(I)I"⟩, prog_12_method_52_code, 6, (Option.some Jvm.ClassFile.FieldType.int), [])
abbrev M_X13_order : xM := (⟨"WeightlatticeModel", "order", "()J"⟩, prog_12_method_23_code, 1, (Option.some Jvm.ClassFile.FieldType.long), [])
abbrev M_X13_pairing_ : xM := (⟨"WeightlatticeModel", "pairing", "(II)I"⟩, prog_12_method_53_code, 3, (Option.some Jvm.ClassFile.FieldType.int), [])
abbrev M_X13_partAt : xM := (⟨"WeightlatticeModel", "partAt", "(II)I"⟩, prog_12_method_73_code, 3, (Option.some Jvm.ClassFile.FieldType.int), [])
abbrev M_X13_polynomial : xM := (⟨"WeightlatticeModel", "polynomial", "(I)I"⟩, prog_12_method_44_code, 4, (Option.some Jvm.ClassFile.FieldType.int), [])
abbrev M_X13_put : xM := (⟨"WeightlatticeModel", "put", "(I)I"⟩, prog_12_method_32_code, 2, (Option.some Jvm.ClassFile.FieldType.int), [])
abbrev M_X13_raise : xM := (⟨"WeightlatticeModel", "raise", "(I)I"⟩, prog_12_method_50_code, 5, (Option.some Jvm.ClassFile.FieldType.int), [])
abbrev M_X13_ratio : xM := (⟨"WeightlatticeModel", "ratio", "(II)D"⟩, prog_12_method_76_code, 3, (Option.some Jvm.ClassFile.FieldType.double), [])
abbrev M_X13_reducedAt : xM := (⟨"WeightlatticeModel", "reducedAt", "(I)I"⟩, prog_12_method_35_code, 5, (Option.some Jvm.ClassFile.FieldType.int), [])
abbrev M_X13_set : xM := (⟨"WeightlatticeModel", "set", "(III)I"⟩, prog_12_method_46_code, 5, (Option.some Jvm.ClassFile.FieldType.int), [])
abbrev M_X13_square : xM := (⟨"WeightlatticeModel", "square", "(I)I"⟩, prog_12_method_19_code, 2, (Option.some Jvm.ClassFile.FieldType.int), [])
abbrev M_X13_times : xM := (⟨"WeightlatticeModel", "times", "(I)I"⟩, prog_12_method_74_code, 2, (Option.some Jvm.ClassFile.FieldType.int), [])
abbrev M_X13_type : xM := (⟨"WeightlatticeModel", "type", "()C"⟩, prog_12_method_77_code, 1, (Option.some Jvm.ClassFile.FieldType.char), [])
abbrev M_X9_act : xM := (⟨"Weightlattice", "act", "(I)I"⟩, prog_1_method_18_code, 2, (Option.some Jvm.ClassFile.FieldType.int), [])
abbrev M_X9_branch : xM := (⟨"Weightlattice", "branch", "(II)I"⟩, prog_1_method_28_code, 4, (Option.some Jvm.ClassFile.FieldType.int), [])
abbrev M_X9_clear : xM := (⟨"Weightlattice", "clear", "()I"⟩, prog_1_method_9_code, 2, (Option.some Jvm.ClassFile.FieldType.int), [])
abbrev M_X9_coefficient : xM := (⟨"Weightlattice", "coefficient", "(II)I"⟩, prog_1_method_4_code, 3, (Option.some Jvm.ClassFile.FieldType.int), [])
abbrev M_X9_dimension : xM := (⟨"Weightlattice", "dimension", "(I)J"⟩, prog_1_method_23_code, 2, (Option.some Jvm.ClassFile.FieldType.long), [])
abbrev M_X9_dominant : xM := (⟨"Weightlattice", "dominant", "(I)I"⟩, prog_1_method_25_code, 2, (Option.some Jvm.ClassFile.FieldType.int), [])
abbrev M_X9_exponent : xM := (⟨"Weightlattice", "exponent", "(I)I"⟩, prog_1_method_6_code, 2, (Option.some Jvm.ClassFile.FieldType.int), [])
abbrev M_X9_fuse : xM := (⟨"Weightlattice", "fuse", "(III)I"⟩, prog_1_method_27_code, 4, (Option.some Jvm.ClassFile.FieldType.int), [])
abbrev M_X9_get : xM := (⟨"Weightlattice", "get", "(II)I"⟩, prog_1_method_17_code, 3, (Option.some Jvm.ClassFile.FieldType.int), [])
abbrev M_X9_goesDown : xM := (⟨"Weightlattice", "goesDown", "(IZ)Z"⟩, prog_1_method_12_code, 3, (Option.some Jvm.ClassFile.FieldType.boolean), [])
abbrev M_X9_isBelow : xM := (⟨"Weightlattice", "isBelow", "()Z"⟩, prog_1_method_14_code, 1, (Option.some Jvm.ClassFile.FieldType.boolean), [])
abbrev M_X9_isConsistent : xM := (⟨"Weightlattice", "isConsistent", "()Z"⟩, prog_1_method_34_code, 3, (Option.some Jvm.ClassFile.FieldType.boolean), [])
abbrev M_X9_isLower : xM := (⟨"Weightlattice", "isLower", "(II)Z"⟩, prog_1_method_22_code, 3, (Option.some Jvm.ClassFile.FieldType.boolean), [])
abbrev M_X9_keep : xM := (⟨"Weightlattice", "keep", "()I"⟩, prog_1_method_13_code, 2, (Option.some Jvm.ClassFile.FieldType.int), [])
abbrev M_X9_length : xM := (⟨"Weightlattice", "length", "()I"⟩, prog_1_method_10_code, 1, (Option.some Jvm.ClassFile.FieldType.int), [])
abbrev M_X9_matrix : xM := (⟨"Weightlattice", "matrix", "(II)I"⟩, prog_1_method_3_code, 3, (Option.some Jvm.ClassFile.FieldType.int), [])
abbrev M_X9_meanLength : xM := (⟨"Weightlattice", "meanLength", "()F"⟩, prog_1_method_31_code, 1, (Option.some Jvm.ClassFile.FieldType.float), [])
abbrev M_X9_multiplicity : xM := (⟨"Weightlattice", "multiplicity", "(II)I"⟩, prog_1_method_24_code, 3, (Option.some Jvm.ClassFile.FieldType.int), [])
abbrev M_X9_multiply : xM := (⟨"Weightlattice", "multiply", "(II)I"⟩, prog_1_method_26_code, 3, (Option.some Jvm.ClassFile.FieldType.int), [])
abbrev M_X9_orbit : xM := (⟨"Weightlattice", "orbit", "(I)I"⟩, prog_1_method_20_code, 2, (Option.some Jvm.ClassFile.FieldType.int), [])
abbrev M_X9_order : xM := (⟨"Weightlattice", "order", "()J"⟩, prog_1_method_7_code, 1, (Option.some Jvm.ClassFile.FieldType.long), [])
abbrev M_X9_pairing : xM := (⟨"Weightlattice", "pairing", "(II)I"⟩, prog_1_method_21_code, 4, (Option.some Jvm.ClassFile.FieldType.int), [])
abbrev M_X9_partAt : xM := (⟨"Weightlattice", "partAt", "(II)I"⟩, prog_1_method_29_code, 3, (Option.some Jvm.ClassFile.FieldType.int), [])
abbrev M_X9_polynomial : xM := (⟨"Weightlattice", "polynomial", "(I)I"⟩, prog_1_method_15_code, 2, (Option.some Jvm.ClassFile.FieldType.int), [])
abbrev M_X9_put : xM := (⟨"Weightlattice", "put", "(I)I"⟩, prog_1_method_8_code, 2, (Option.some Jvm.ClassFile.FieldType.int), [])
abbrev M_X9_raise : xM := (⟨"Weightlattice", "raise", "(I)I"⟩, prog_1_method_19_code, 2, (Option.some Jvm.ClassFile.FieldType.int), [])
abbrev M_X9_ratio : xM := (⟨"Weightlattice", "ratio", "(II)D"⟩, prog_1_method_32_code, 3, (Option.some Jvm.ClassFile.FieldType.double), [])
abbrev M_X9_reducedAt : xM := (⟨"Weightlattice", "reducedAt", "(I)I"⟩, prog_1_method_11_code, 3, (Option.some Jvm.ClassFile.FieldType.int), [])
abbrev M_X9_requireSystem : xM := (⟨"Weightlattice", "requireSystem", "()V"⟩, prog_1_method_35_code, 1, (Option.none : Option Jvm.ClassFile.FieldType), [])
abbrev M_X9_set : xM := (⟨"Weightlattice", "set", "(III)I"⟩, prog_1_method_16_code, 5, (Option.some Jvm.ClassFile.FieldType.int), [])
abbrev M_X9_square : xM := (⟨"Weightlattice", "square", "(I)I"⟩, prog_1_method_5_code, 2, (Option.some Jvm.ClassFile.FieldType.int), [])
abbrev M_X9_times : xM := (⟨"Weightlattice", "times", "(I)I"⟩, prog_1_method_30_code, 2, (Option.some Jvm.ClassFile.FieldType.int), [])
abbrev M_X9_type : xM := (⟨"Weightlattice", "type", "()C"⟩, prog_1_method_33_code, 1, (Option.some Jvm.ClassFile.FieldType.char), [])
def xms : List xM := [M_J15_checkIndex_7cf53, M_J3_checkIndex_8e157, M_Jx4a65c_elementData_915e3, M_Jx4a65c_get_915e3, M_Jx4a65c_size_8abf5, M_X13_sameRow, M_X4_sameAsCandidate, M_X4_simpleSquare, M_X4_weightOf, M_X4_climb, M_X13_find, M_X13_sum, M_X4_enterCandidate, M_X13_entry, M_X3_write, M_X4_plainEntry, M_Jx4a65c_add_72be8, M_Jx4a65c_add_9ea2d, M_X4_pair, M_X10_compare, M_X10_compare_, M_X4_comesBefore, M_X13_compare, M_J9_abs_0f7a4, M_X3_init, M_X13_squareOf, M_X3_empty, M_Jx4a65c_clear_da8c8, M_Jx4a65c_init_da8c8, M_Jxa1e45_init_da8c8, M_Jxc12de_init_da8c8, M_X6_init, M_J9_max_7cf53, M_Jx4a65c_grow_92f84, M_Jx4a65c_grow_d5877, M_J7_fill_53178, M_J7_rangeCheck_23922, M_J7_sort_a871f, M_Jx4a65c_sort_a3821, M_Jxfee68_binarySort_68778, M_Jxfee68_countRunAndMakeAscending_9f01e, M_Jxfee68_sort_c7964, M_L_choose, M_L_law, M_X0_init, M_X10_init, M_X13_choose, M_X13_findRoots, M_X13_init, M_X13_isWrong, M_X13_rho, M_X13_thrown, M_X2_forget, M_X2_init, M_X4_build, M_X4_fillMatrix, M_X4_findExponents, M_X4_findRoots, M_X4_hasSystem, M_X4_init, M_X4_measureRoots, M_X4_orbitSize, M_X4_sortRoots, M_X5_init, M_X6_empty, M_X7_forget, M_X7_init, M_X8_init, M_X9_choose, M_X9_copy, M_X9_init, M_J7_copyOf_1904c, M_J7_copyOf_6403c, M_J8_newLength_cabcc, M_J9_min_7cf53, M_X13_isBetween, M_L_act, M_L_branch, M_L_coefficient, M_L_dimension, M_L_dominant, M_L_exponent, M_L_fuse, M_L_get, M_L_goesDown, M_L_isBelow, M_L_isConsistent, M_L_isLower, M_L_keep, M_L_length, M_L_matrix, M_L_meanLength, M_L_multiplicity, M_L_multiply, M_L_orbit, M_L_order, M_L_pairing, M_L_partAt, M_L_polynomial, M_L_put, M_L_raise, M_L_ratio, M_L_reducedAt, M_L_set, M_L_square, M_L_times, M_X13_act, M_X13_branch, M_X13_clear, M_X13_coefficient, M_X13_dimension, M_X13_dominant, M_X13_exponent, M_X13_fuse, M_X13_get, M_X13_goesDown, M_X13_isBelow_, M_X13_isConsistent, M_X13_isLower, M_X13_isNoRegister, M_X13_isNoSystem, M_X13_isNotDominant, M_X13_keep, M_X13_length, M_X13_matrix, M_X13_meanLength, M_X13_multiplicity_, M_X13_multiply, M_X13_orbit, M_X13_order, M_X13_pairing_, M_X13_partAt, M_X13_polynomial, M_X13_put, M_X13_raise, M_X13_ratio, M_X13_reducedAt, M_X13_set, M_X13_square, M_X13_times, M_X13_type, M_X9_act, M_X9_branch, M_X9_clear, M_X9_coefficient, M_X9_dimension, M_X9_dominant, M_X9_exponent, M_X9_fuse, M_X9_get, M_X9_goesDown, M_X9_isBelow, M_X9_isConsistent, M_X9_isLower, M_X9_keep, M_X9_length, M_X9_matrix, M_X9_meanLength, M_X9_multiplicity, M_X9_multiply, M_X9_orbit, M_X9_order, M_X9_pairing, M_X9_partAt, M_X9_polynomial, M_X9_put, M_X9_raise, M_X9_ratio, M_X9_reducedAt, M_X9_requireSystem, M_X9_set, M_X9_square, M_X9_times, M_X9_type]
theorem u_J15_checkIndex_7cf53 : xms[0]? = some M_J15_checkIndex_7cf53 := rfl
theorem u_J3_checkIndex_8e157 : xms[1]? = some M_J3_checkIndex_8e157 := rfl
theorem u_Jx4a65c_elementData_915e3 : xms[2]? = some M_Jx4a65c_elementData_915e3 := rfl
theorem u_Jx4a65c_get_915e3 : xms[3]? = some M_Jx4a65c_get_915e3 := rfl
theorem u_Jx4a65c_size_8abf5 : xms[4]? = some M_Jx4a65c_size_8abf5 := rfl
theorem u_X13_sameRow : xms[5]? = some M_X13_sameRow := rfl
theorem u_X4_sameAsCandidate : xms[6]? = some M_X4_sameAsCandidate := rfl
theorem u_X4_simpleSquare : xms[7]? = some M_X4_simpleSquare := rfl
theorem u_X4_weightOf : xms[8]? = some M_X4_weightOf := rfl
theorem u_X4_climb : xms[9]? = some M_X4_climb := rfl
theorem u_X13_find : xms[10]? = some M_X13_find := rfl
theorem u_X13_sum : xms[11]? = some M_X13_sum := rfl
theorem u_X4_enterCandidate : xms[12]? = some M_X4_enterCandidate := rfl
theorem u_X13_entry : xms[13]? = some M_X13_entry := rfl
theorem u_X3_write : xms[14]? = some M_X3_write := rfl
theorem u_X4_plainEntry : xms[15]? = some M_X4_plainEntry := rfl
theorem u_Jx4a65c_add_72be8 : xms[16]? = some M_Jx4a65c_add_72be8 := rfl
theorem u_Jx4a65c_add_9ea2d : xms[17]? = some M_Jx4a65c_add_9ea2d := rfl
theorem u_X4_pair : xms[18]? = some M_X4_pair := rfl
theorem u_X10_compare : xms[19]? = some M_X10_compare := rfl
theorem u_X10_compare_ : xms[20]? = some M_X10_compare_ := rfl
theorem u_X4_comesBefore : xms[21]? = some M_X4_comesBefore := rfl
theorem u_X13_compare : xms[22]? = some M_X13_compare := rfl
theorem u_J9_abs_0f7a4 : xms[23]? = some M_J9_abs_0f7a4 := rfl
theorem u_X3_init : xms[24]? = some M_X3_init := rfl
theorem u_X13_squareOf : xms[25]? = some M_X13_squareOf := rfl
theorem u_X3_empty : xms[26]? = some M_X3_empty := rfl
theorem u_Jx4a65c_clear_da8c8 : xms[27]? = some M_Jx4a65c_clear_da8c8 := rfl
theorem u_Jx4a65c_init_da8c8 : xms[28]? = some M_Jx4a65c_init_da8c8 := rfl
theorem u_Jxa1e45_init_da8c8 : xms[29]? = some M_Jxa1e45_init_da8c8 := rfl
theorem u_Jxc12de_init_da8c8 : xms[30]? = some M_Jxc12de_init_da8c8 := rfl
theorem u_X6_init : xms[31]? = some M_X6_init := rfl
theorem u_J9_max_7cf53 : xms[32]? = some M_J9_max_7cf53 := rfl
theorem u_Jx4a65c_grow_92f84 : xms[33]? = some M_Jx4a65c_grow_92f84 := rfl
theorem u_Jx4a65c_grow_d5877 : xms[34]? = some M_Jx4a65c_grow_d5877 := rfl
theorem u_J7_fill_53178 : xms[35]? = some M_J7_fill_53178 := rfl
theorem u_J7_rangeCheck_23922 : xms[36]? = some M_J7_rangeCheck_23922 := rfl
theorem u_J7_sort_a871f : xms[37]? = some M_J7_sort_a871f := rfl
theorem u_Jx4a65c_sort_a3821 : xms[38]? = some M_Jx4a65c_sort_a3821 := rfl
theorem u_Jxfee68_binarySort_68778 : xms[39]? = some M_Jxfee68_binarySort_68778 := rfl
theorem u_Jxfee68_countRunAndMakeAscending_9f01e : xms[40]? = some M_Jxfee68_countRunAndMakeAscending_9f01e := rfl
theorem u_Jxfee68_sort_c7964 : xms[41]? = some M_Jxfee68_sort_c7964 := rfl
theorem u_L_choose : xms[42]? = some M_L_choose := rfl
theorem u_L_law : xms[43]? = some M_L_law := rfl
theorem u_X0_init : xms[44]? = some M_X0_init := rfl
theorem u_X10_init : xms[45]? = some M_X10_init := rfl
theorem u_X13_choose : xms[46]? = some M_X13_choose := rfl
theorem u_X13_findRoots : xms[47]? = some M_X13_findRoots := rfl
theorem u_X13_init : xms[48]? = some M_X13_init := rfl
theorem u_X13_isWrong : xms[49]? = some M_X13_isWrong := rfl
theorem u_X13_rho : xms[50]? = some M_X13_rho := rfl
theorem u_X13_thrown : xms[51]? = some M_X13_thrown := rfl
theorem u_X2_forget : xms[52]? = some M_X2_forget := rfl
theorem u_X2_init : xms[53]? = some M_X2_init := rfl
theorem u_X4_build : xms[54]? = some M_X4_build := rfl
theorem u_X4_fillMatrix : xms[55]? = some M_X4_fillMatrix := rfl
theorem u_X4_findExponents : xms[56]? = some M_X4_findExponents := rfl
theorem u_X4_findRoots : xms[57]? = some M_X4_findRoots := rfl
theorem u_X4_hasSystem : xms[58]? = some M_X4_hasSystem := rfl
theorem u_X4_init : xms[59]? = some M_X4_init := rfl
theorem u_X4_measureRoots : xms[60]? = some M_X4_measureRoots := rfl
theorem u_X4_orbitSize : xms[61]? = some M_X4_orbitSize := rfl
theorem u_X4_sortRoots : xms[62]? = some M_X4_sortRoots := rfl
theorem u_X5_init : xms[63]? = some M_X5_init := rfl
theorem u_X6_empty : xms[64]? = some M_X6_empty := rfl
theorem u_X7_forget : xms[65]? = some M_X7_forget := rfl
theorem u_X7_init : xms[66]? = some M_X7_init := rfl
theorem u_X8_init : xms[67]? = some M_X8_init := rfl
theorem u_X9_choose : xms[68]? = some M_X9_choose := rfl
theorem u_X9_copy : xms[69]? = some M_X9_copy := rfl
theorem u_X9_init : xms[70]? = some M_X9_init := rfl
theorem u_J7_copyOf_1904c : xms[71]? = some M_J7_copyOf_1904c := rfl
theorem u_J7_copyOf_6403c : xms[72]? = some M_J7_copyOf_6403c := rfl
theorem u_J8_newLength_cabcc : xms[73]? = some M_J8_newLength_cabcc := rfl
theorem u_J9_min_7cf53 : xms[74]? = some M_J9_min_7cf53 := rfl
theorem u_X13_isBetween : xms[75]? = some M_X13_isBetween := rfl
theorem u_L_act : xms[76]? = some M_L_act := rfl
theorem u_L_branch : xms[77]? = some M_L_branch := rfl
theorem u_L_coefficient : xms[78]? = some M_L_coefficient := rfl
theorem u_L_dimension : xms[79]? = some M_L_dimension := rfl
theorem u_L_dominant : xms[80]? = some M_L_dominant := rfl
theorem u_L_exponent : xms[81]? = some M_L_exponent := rfl
theorem u_L_fuse : xms[82]? = some M_L_fuse := rfl
theorem u_L_get : xms[83]? = some M_L_get := rfl
theorem u_L_goesDown : xms[84]? = some M_L_goesDown := rfl
theorem u_L_isBelow : xms[85]? = some M_L_isBelow := rfl
theorem u_L_isConsistent : xms[86]? = some M_L_isConsistent := rfl
theorem u_L_isLower : xms[87]? = some M_L_isLower := rfl
theorem u_L_keep : xms[88]? = some M_L_keep := rfl
theorem u_L_length : xms[89]? = some M_L_length := rfl
theorem u_L_matrix : xms[90]? = some M_L_matrix := rfl
theorem u_L_meanLength : xms[91]? = some M_L_meanLength := rfl
theorem u_L_multiplicity : xms[92]? = some M_L_multiplicity := rfl
theorem u_L_multiply : xms[93]? = some M_L_multiply := rfl
theorem u_L_orbit : xms[94]? = some M_L_orbit := rfl
theorem u_L_order : xms[95]? = some M_L_order := rfl
theorem u_L_pairing : xms[96]? = some M_L_pairing := rfl
theorem u_L_partAt : xms[97]? = some M_L_partAt := rfl
theorem u_L_polynomial : xms[98]? = some M_L_polynomial := rfl
theorem u_L_put : xms[99]? = some M_L_put := rfl
theorem u_L_raise : xms[100]? = some M_L_raise := rfl
theorem u_L_ratio : xms[101]? = some M_L_ratio := rfl
theorem u_L_reducedAt : xms[102]? = some M_L_reducedAt := rfl
theorem u_L_set : xms[103]? = some M_L_set := rfl
theorem u_L_square : xms[104]? = some M_L_square := rfl
theorem u_L_times : xms[105]? = some M_L_times := rfl
theorem u_X13_act : xms[106]? = some M_X13_act := rfl
theorem u_X13_branch : xms[107]? = some M_X13_branch := rfl
theorem u_X13_clear : xms[108]? = some M_X13_clear := rfl
theorem u_X13_coefficient : xms[109]? = some M_X13_coefficient := rfl
theorem u_X13_dimension : xms[110]? = some M_X13_dimension := rfl
theorem u_X13_dominant : xms[111]? = some M_X13_dominant := rfl
theorem u_X13_exponent : xms[112]? = some M_X13_exponent := rfl
theorem u_X13_fuse : xms[113]? = some M_X13_fuse := rfl
theorem u_X13_get : xms[114]? = some M_X13_get := rfl
theorem u_X13_goesDown : xms[115]? = some M_X13_goesDown := rfl
theorem u_X13_isBelow_ : xms[116]? = some M_X13_isBelow_ := rfl
theorem u_X13_isConsistent : xms[117]? = some M_X13_isConsistent := rfl
theorem u_X13_isLower : xms[118]? = some M_X13_isLower := rfl
theorem u_X13_isNoRegister : xms[119]? = some M_X13_isNoRegister := rfl
theorem u_X13_isNoSystem : xms[120]? = some M_X13_isNoSystem := rfl
theorem u_X13_isNotDominant : xms[121]? = some M_X13_isNotDominant := rfl
theorem u_X13_keep : xms[122]? = some M_X13_keep := rfl
theorem u_X13_length : xms[123]? = some M_X13_length := rfl
theorem u_X13_matrix : xms[124]? = some M_X13_matrix := rfl
theorem u_X13_meanLength : xms[125]? = some M_X13_meanLength := rfl
theorem u_X13_multiplicity_ : xms[126]? = some M_X13_multiplicity_ := rfl
theorem u_X13_multiply : xms[127]? = some M_X13_multiply := rfl
theorem u_X13_orbit : xms[128]? = some M_X13_orbit := rfl
theorem u_X13_order : xms[129]? = some M_X13_order := rfl
theorem u_X13_pairing_ : xms[130]? = some M_X13_pairing_ := rfl
theorem u_X13_partAt : xms[131]? = some M_X13_partAt := rfl
theorem u_X13_polynomial : xms[132]? = some M_X13_polynomial := rfl
theorem u_X13_put : xms[133]? = some M_X13_put := rfl
theorem u_X13_raise : xms[134]? = some M_X13_raise := rfl
theorem u_X13_ratio : xms[135]? = some M_X13_ratio := rfl
theorem u_X13_reducedAt : xms[136]? = some M_X13_reducedAt := rfl
theorem u_X13_set : xms[137]? = some M_X13_set := rfl
theorem u_X13_square : xms[138]? = some M_X13_square := rfl
theorem u_X13_times : xms[139]? = some M_X13_times := rfl
theorem u_X13_type : xms[140]? = some M_X13_type := rfl
theorem u_X9_act : xms[141]? = some M_X9_act := rfl
theorem u_X9_branch : xms[142]? = some M_X9_branch := rfl
theorem u_X9_clear : xms[143]? = some M_X9_clear := rfl
theorem u_X9_coefficient : xms[144]? = some M_X9_coefficient := rfl
theorem u_X9_dimension : xms[145]? = some M_X9_dimension := rfl
theorem u_X9_dominant : xms[146]? = some M_X9_dominant := rfl
theorem u_X9_exponent : xms[147]? = some M_X9_exponent := rfl
theorem u_X9_fuse : xms[148]? = some M_X9_fuse := rfl
theorem u_X9_get : xms[149]? = some M_X9_get := rfl
theorem u_X9_goesDown : xms[150]? = some M_X9_goesDown := rfl
theorem u_X9_isBelow : xms[151]? = some M_X9_isBelow := rfl
theorem u_X9_isConsistent : xms[152]? = some M_X9_isConsistent := rfl
theorem u_X9_isLower : xms[153]? = some M_X9_isLower := rfl
theorem u_X9_keep : xms[154]? = some M_X9_keep := rfl
theorem u_X9_length : xms[155]? = some M_X9_length := rfl
theorem u_X9_matrix : xms[156]? = some M_X9_matrix := rfl
theorem u_X9_meanLength : xms[157]? = some M_X9_meanLength := rfl
theorem u_X9_multiplicity : xms[158]? = some M_X9_multiplicity := rfl
theorem u_X9_multiply : xms[159]? = some M_X9_multiply := rfl
theorem u_X9_orbit : xms[160]? = some M_X9_orbit := rfl
theorem u_X9_order : xms[161]? = some M_X9_order := rfl
theorem u_X9_pairing : xms[162]? = some M_X9_pairing := rfl
theorem u_X9_partAt : xms[163]? = some M_X9_partAt := rfl
theorem u_X9_polynomial : xms[164]? = some M_X9_polynomial := rfl
theorem u_X9_put : xms[165]? = some M_X9_put := rfl
theorem u_X9_raise : xms[166]? = some M_X9_raise := rfl
theorem u_X9_ratio : xms[167]? = some M_X9_ratio := rfl
theorem u_X9_reducedAt : xms[168]? = some M_X9_reducedAt := rfl
theorem u_X9_requireSystem : xms[169]? = some M_X9_requireSystem := rfl
theorem u_X9_set : xms[170]? = some M_X9_set := rfl
theorem u_X9_square : xms[171]? = some M_X9_square := rfl
theorem u_X9_times : xms[172]? = some M_X9_times := rfl
theorem u_X9_type : xms[173]? = some M_X9_type := rfl
theorem mo_J15_checkIndex_7cf53 : x_Mok M_J15_checkIndex_7cf53 := ⟨rfl, q_1519, q_116, ⟨by decide, by decide⟩, by decide⟩
theorem mo_J3_checkIndex_8e157 : x_Mok M_J3_checkIndex_8e157 := ⟨rfl, q_1522, q_117, ⟨by decide, by decide⟩, by decide⟩
theorem mo_Jx4a65c_elementData_915e3 : x_Mok M_Jx4a65c_elementData_915e3 := ⟨rfl, q_1526, q_107, ⟨by decide, by decide⟩, by decide⟩
theorem mo_Jx4a65c_get_915e3 : x_Mok M_Jx4a65c_get_915e3 := ⟨rfl, q_1516, q_107, ⟨by decide, by decide⟩, by decide⟩
theorem mo_Jx4a65c_size_8abf5 : x_Mok M_Jx4a65c_size_8abf5 := ⟨rfl, q_1507, q_107, ⟨by decide, by decide⟩, by decide⟩
theorem mo_X13_sameRow : x_Mok M_X13_sameRow := ⟨rfl, q_1539, q_104, ⟨by decide, by decide⟩, by decide⟩
theorem mo_X4_sameAsCandidate : x_Mok M_X4_sameAsCandidate := ⟨rfl, q_562, q_96, ⟨by decide, by decide⟩, by decide⟩
theorem mo_X4_simpleSquare : x_Mok M_X4_simpleSquare := ⟨rfl, q_586, q_96, ⟨by decide, by decide⟩, by decide⟩
theorem mo_X4_weightOf : x_Mok M_X4_weightOf := ⟨rfl, q_570, q_96, ⟨by decide, by decide⟩, by decide⟩
theorem mo_X4_climb : x_Mok M_X4_climb := ⟨rfl, q_566, q_96, ⟨by decide, by decide⟩, by decide⟩
theorem mo_X13_find : x_Mok M_X13_find := ⟨rfl, q_1536, q_104, ⟨by decide, by decide⟩, by decide⟩
theorem mo_X13_sum : x_Mok M_X13_sum := ⟨rfl, q_2096, q_104, ⟨by decide, by decide⟩, by decide⟩
theorem mo_X4_enterCandidate : x_Mok M_X4_enterCandidate := ⟨rfl, q_558, q_96, ⟨by decide, by decide⟩, by decide⟩
theorem mo_X13_entry : x_Mok M_X13_entry := ⟨rfl, q_1394, q_104, ⟨by decide, by decide⟩, by decide⟩
theorem mo_X3_write : x_Mok M_X3_write := ⟨rfl, q_621, q_103, ⟨by decide, by decide⟩, by decide⟩
theorem mo_X4_plainEntry : x_Mok M_X4_plainEntry := ⟨rfl, q_550, q_96, ⟨by decide, by decide⟩, by decide⟩
theorem mo_Jx4a65c_add_72be8 : x_Mok M_Jx4a65c_add_72be8 := ⟨rfl, q_1431, q_107, ⟨by decide, by decide⟩, by decide⟩
theorem mo_Jx4a65c_add_9ea2d : x_Mok M_Jx4a65c_add_9ea2d := ⟨rfl, q_1427, q_107, ⟨by decide, by decide⟩, by decide⟩
theorem mo_X4_pair : x_Mok M_X4_pair := ⟨rfl, q_598, q_96, ⟨by decide, by decide⟩, by decide⟩
theorem mo_X10_compare : x_Mok M_X10_compare := ⟨rfl, q_2093, q_118, ⟨by decide, by decide⟩, by decide⟩
theorem mo_X10_compare_ : x_Mok M_X10_compare_ := ⟨rfl, q_2088, q_118, ⟨by decide, by decide⟩, by decide⟩
theorem mo_X4_comesBefore : x_Mok M_X4_comesBefore := ⟨rfl, q_578, q_96, ⟨by decide, by decide⟩, by decide⟩
theorem mo_X13_compare : x_Mok M_X13_compare := ⟨rfl, q_2099, q_104, ⟨by decide, by decide⟩, by decide⟩
theorem mo_J9_abs_0f7a4 : x_Mok M_J9_abs_0f7a4 := ⟨rfl, q_1397, q_112, ⟨by decide, by decide⟩, by decide⟩
theorem mo_X3_init : x_Mok M_X3_init := ⟨rfl, q_400, q_103, ⟨by decide, by decide⟩, by decide⟩
theorem mo_X13_squareOf : x_Mok M_X13_squareOf := ⟨rfl, q_1391, q_104, ⟨by decide, by decide⟩, by decide⟩
theorem mo_X3_empty : x_Mok M_X3_empty := ⟨rfl, q_617, q_103, ⟨by decide, by decide⟩, by decide⟩
theorem mo_Jx4a65c_clear_da8c8 : x_Mok M_Jx4a65c_clear_da8c8 := ⟨rfl, q_1407, q_107, ⟨by decide, by decide⟩, by decide⟩
theorem mo_Jx4a65c_init_da8c8 : x_Mok M_Jx4a65c_init_da8c8 := ⟨rfl, q_1315, q_107, ⟨by decide, by decide⟩, by decide⟩
theorem mo_Jxa1e45_init_da8c8 : x_Mok M_Jxa1e45_init_da8c8 := ⟨rfl, q_1321, q_105, ⟨by decide, by decide⟩, by decide⟩
theorem mo_Jxc12de_init_da8c8 : x_Mok M_Jxc12de_init_da8c8 := ⟨rfl, q_1318, q_106, ⟨by decide, by decide⟩, by decide⟩
theorem mo_X6_init : x_Mok M_X6_init := ⟨rfl, q_342, q_101, ⟨by decide, by decide⟩, by decide⟩
theorem mo_J9_max_7cf53 : x_Mok M_J9_max_7cf53 := ⟨rfl, q_1445, q_112, ⟨by decide, by decide⟩, by decide⟩
theorem mo_Jx4a65c_grow_92f84 : x_Mok M_Jx4a65c_grow_92f84 := ⟨rfl, q_1439, q_107, ⟨by decide, by decide⟩, by decide⟩
theorem mo_Jx4a65c_grow_d5877 : x_Mok M_Jx4a65c_grow_d5877 := ⟨rfl, q_1435, q_107, ⟨by decide, by decide⟩, by decide⟩
theorem mo_J7_fill_53178 : x_Mok M_J7_fill_53178 := ⟨rfl, q_1414, q_113, ⟨by decide, by decide⟩, by decide⟩
theorem mo_J7_rangeCheck_23922 : x_Mok M_J7_rangeCheck_23922 := ⟨rfl, q_1564, q_113, ⟨by decide, by decide⟩, by decide⟩
theorem mo_J7_sort_a871f : x_Mok M_J7_sort_a871f := ⟨rfl, q_1558, q_113, ⟨by decide, by decide⟩, by decide⟩
theorem mo_Jx4a65c_sort_a3821 : x_Mok M_Jx4a65c_sort_a3821 := ⟨rfl, q_1555, q_107, ⟨by decide, by decide⟩, by decide⟩
theorem mo_Jxfee68_binarySort_68778 : x_Mok M_Jxfee68_binarySort_68778 := ⟨rfl, q_2214, q_129, ⟨by decide, by decide⟩, by decide⟩
theorem mo_Jxfee68_countRunAndMakeAscending_9f01e : x_Mok M_Jxfee68_countRunAndMakeAscending_9f01e := ⟨rfl, q_2078, q_129, ⟨by decide, by decide⟩, by decide⟩
theorem mo_Jxfee68_sort_c7964 : x_Mok M_Jxfee68_sort_c7964 := ⟨rfl, q_2073, q_129, ⟨by decide, by decide⟩, by decide⟩
theorem mo_L_choose : x_MokH M_L_choose := ⟨(fun h => nomatch h), q_457, q_94, ⟨by decide, by decide⟩, by decide⟩
theorem mo_X0_init : x_Mok M_X0_init := ⟨rfl, q_375, q_102, ⟨by decide, by decide⟩, by decide⟩
theorem mo_X10_init : x_Mok M_X10_init := ⟨rfl, q_1544, q_118, ⟨by decide, by decide⟩, by decide⟩
theorem mo_X13_choose : x_Mok M_X13_choose := ⟨rfl, q_1381, q_104, ⟨by decide, by decide⟩, by decide⟩
theorem mo_X13_findRoots : x_Mok M_X13_findRoots := ⟨rfl, q_1418, q_104, ⟨by decide, by decide⟩, by decide⟩
theorem mo_X13_init : x_Mok M_X13_init := ⟨rfl, q_1308, q_104, ⟨by decide, by decide⟩, by decide⟩
theorem mo_X13_isWrong : x_Mok M_X13_isWrong := ⟨rfl, q_1388, q_104, ⟨by decide, by decide⟩, by decide⟩
theorem mo_X13_rho : x_Mok M_X13_rho := ⟨rfl, q_1411, q_104, ⟨by decide, by decide⟩, by decide⟩
theorem mo_X13_thrown : x_Mok M_X13_thrown := ⟨rfl, q_1377, q_104, ⟨by decide, by decide⟩, by decide⟩
theorem mo_X2_forget : x_Mok M_X2_forget := ⟨rfl, q_602, q_98, ⟨by decide, by decide⟩, by decide⟩
theorem mo_X2_init : x_Mok M_X2_init := ⟨rfl, q_256, q_98, ⟨by decide, by decide⟩, by decide⟩
theorem mo_X4_build : x_Mok M_X4_build := ⟨rfl, q_542, q_96, ⟨by decide, by decide⟩, by decide⟩
theorem mo_X4_fillMatrix : x_Mok M_X4_fillMatrix := ⟨rfl, q_546, q_96, ⟨by decide, by decide⟩, by decide⟩
theorem mo_X4_findExponents : x_Mok M_X4_findExponents := ⟨rfl, q_590, q_96, ⟨by decide, by decide⟩, by decide⟩
theorem mo_X4_findRoots : x_Mok M_X4_findRoots := ⟨rfl, q_554, q_96, ⟨by decide, by decide⟩, by decide⟩
theorem mo_X4_hasSystem : x_Mok M_X4_hasSystem := ⟨rfl, q_465, q_96, ⟨by decide, by decide⟩, by decide⟩
theorem mo_X4_init : x_Mok M_X4_init := ⟨rfl, q_156, q_96, ⟨by decide, by decide⟩, by decide⟩
theorem mo_X4_measureRoots : x_Mok M_X4_measureRoots := ⟨rfl, q_582, q_96, ⟨by decide, by decide⟩, by decide⟩
theorem mo_X4_orbitSize : x_Mok M_X4_orbitSize := ⟨rfl, q_594, q_96, ⟨by decide, by decide⟩, by decide⟩
theorem mo_X4_sortRoots : x_Mok M_X4_sortRoots := ⟨rfl, q_574, q_96, ⟨by decide, by decide⟩, by decide⟩
theorem mo_X5_init : x_Mok M_X5_init := ⟨rfl, q_336, q_100, ⟨by decide, by decide⟩, by decide⟩
theorem mo_X6_empty : x_Mok M_X6_empty := ⟨rfl, q_610, q_101, ⟨by decide, by decide⟩, by decide⟩
theorem mo_X7_forget : x_Mok M_X7_forget := ⟨rfl, q_606, q_99, ⟨by decide, by decide⟩, by decide⟩
theorem mo_X7_init : x_Mok M_X7_init := ⟨rfl, q_287, q_99, ⟨by decide, by decide⟩, by decide⟩
theorem mo_X8_init : x_Mok M_X8_init := ⟨rfl, q_238, q_97, ⟨by decide, by decide⟩, by decide⟩
theorem mo_X9_choose : x_Mok M_X9_choose := ⟨rfl, q_462, q_95, ⟨by decide, by decide⟩, by decide⟩
theorem mo_X9_copy : x_Mok M_X9_copy := ⟨rfl, q_613, q_95, ⟨by decide, by decide⟩, by decide⟩
theorem mo_X9_init : x_Mok M_X9_init := ⟨rfl, q_148, q_95, ⟨by decide, by decide⟩, by decide⟩
theorem mo_J7_copyOf_1904c : x_Mok M_J7_copyOf_1904c := ⟨rfl, q_1452, q_113, ⟨by decide, by decide⟩, by decide⟩
theorem mo_J7_copyOf_6403c : x_Mok M_J7_copyOf_6403c := ⟨rfl, q_1487, q_113, ⟨by decide, by decide⟩, by decide⟩
theorem mo_J8_newLength_cabcc : x_Mok M_J8_newLength_cabcc := ⟨rfl, q_1442, q_114, ⟨by decide, by decide⟩, by decide⟩
theorem mo_J9_min_7cf53 : x_Mok M_J9_min_7cf53 := ⟨rfl, q_1493, q_112, ⟨by decide, by decide⟩, by decide⟩
theorem mo_X13_isBetween : x_Mok M_X13_isBetween := ⟨rfl, q_1384, q_104, ⟨by decide, by decide⟩, by decide⟩
theorem mo_L_act : x_MokH M_L_act := ⟨(fun h => nomatch h), q_933, q_94, ⟨by decide, by decide⟩, by decide⟩
theorem mo_L_branch : x_MokH M_L_branch := ⟨(fun h => nomatch h), q_1221, q_94, ⟨by decide, by decide⟩, by decide⟩
theorem mo_L_coefficient : x_MokH M_L_coefficient := ⟨(fun h => nomatch h), q_694, q_94, ⟨by decide, by decide⟩, by decide⟩
theorem mo_L_dimension : x_MokH M_L_dimension := ⟨(fun h => nomatch h), q_1037, q_94, ⟨by decide, by decide⟩, by decide⟩
theorem mo_L_dominant : x_MokH M_L_dominant := ⟨(fun h => nomatch h), q_1151, q_94, ⟨by decide, by decide⟩, by decide⟩
theorem mo_L_exponent : x_MokH M_L_exponent := ⟨(fun h => nomatch h), q_713, q_94, ⟨by decide, by decide⟩, by decide⟩
theorem mo_L_fuse : x_MokH M_L_fuse := ⟨(fun h => nomatch h), q_1204, q_94, ⟨by decide, by decide⟩, by decide⟩
theorem mo_L_get : x_MokH M_L_get := ⟨(fun h => nomatch h), q_926, q_94, ⟨by decide, by decide⟩, by decide⟩
theorem mo_L_goesDown : x_MokH M_L_goesDown := ⟨(fun h => nomatch h), q_793, q_94, ⟨by decide, by decide⟩, by decide⟩
theorem mo_L_isBelow : x_MokH M_L_isBelow := ⟨(fun h => nomatch h), q_811, q_94, ⟨by decide, by decide⟩, by decide⟩
theorem mo_L_isConsistent : x_MokH M_L_isConsistent := ⟨(fun h => nomatch h), q_1262, q_94, ⟨by decide, by decide⟩, by decide⟩
theorem mo_L_isLower : x_MokH M_L_isLower := ⟨(fun h => nomatch h), q_1011, q_94, ⟨by decide, by decide⟩, by decide⟩
theorem mo_L_keep : x_MokH M_L_keep := ⟨(fun h => nomatch h), q_804, q_94, ⟨by decide, by decide⟩, by decide⟩
theorem mo_L_length : x_MokH M_L_length := ⟨(fun h => nomatch h), q_751, q_94, ⟨by decide, by decide⟩, by decide⟩
theorem mo_L_matrix : x_MokH M_L_matrix := ⟨(fun h => nomatch h), q_625, q_94, ⟨by decide, by decide⟩, by decide⟩
theorem mo_L_meanLength : x_MokH M_L_meanLength := ⟨(fun h => nomatch h), q_1248, q_94, ⟨by decide, by decide⟩, by decide⟩
theorem mo_L_multiplicity : x_MokH M_L_multiplicity := ⟨(fun h => nomatch h), q_1069, q_94, ⟨by decide, by decide⟩, by decide⟩
theorem mo_L_multiply : x_MokH M_L_multiply := ⟨(fun h => nomatch h), q_1158, q_94, ⟨by decide, by decide⟩, by decide⟩
theorem mo_L_orbit : x_MokH M_L_orbit := ⟨(fun h => nomatch h), q_982, q_94, ⟨by decide, by decide⟩, by decide⟩
theorem mo_L_order : x_MokH M_L_order := ⟨(fun h => nomatch h), q_720, q_94, ⟨by decide, by decide⟩, by decide⟩
theorem mo_L_pairing : x_MokH M_L_pairing := ⟨(fun h => nomatch h), q_1003, q_94, ⟨by decide, by decide⟩, by decide⟩
theorem mo_L_partAt : x_MokH M_L_partAt := ⟨(fun h => nomatch h), q_1228, q_94, ⟨by decide, by decide⟩, by decide⟩
theorem mo_L_polynomial : x_MokH M_L_polynomial := ⟨(fun h => nomatch h), q_826, q_94, ⟨by decide, by decide⟩, by decide⟩
theorem mo_L_put : x_MokH M_L_put := ⟨(fun h => nomatch h), q_727, q_94, ⟨by decide, by decide⟩, by decide⟩
theorem mo_L_raise : x_MokH M_L_raise := ⟨(fun h => nomatch h), q_962, q_94, ⟨by decide, by decide⟩, by decide⟩
theorem mo_L_ratio : x_MokH M_L_ratio := ⟨(fun h => nomatch h), q_1255, q_94, ⟨by decide, by decide⟩, by decide⟩
theorem mo_L_reducedAt : x_MokH M_L_reducedAt := ⟨(fun h => nomatch h), q_775, q_94, ⟨by decide, by decide⟩, by decide⟩
theorem mo_L_set : x_MokH M_L_set := ⟨(fun h => nomatch h), q_908, q_94, ⟨by decide, by decide⟩, by decide⟩
theorem mo_L_square : x_MokH M_L_square := ⟨(fun h => nomatch h), q_706, q_94, ⟨by decide, by decide⟩, by decide⟩
theorem mo_L_times : x_MokH M_L_times := ⟨(fun h => nomatch h), q_1241, q_94, ⟨by decide, by decide⟩, by decide⟩
theorem mo_X13_act : x_Mok M_X13_act := ⟨rfl, q_2352, q_104, ⟨by decide, by decide⟩, by decide⟩
theorem mo_X13_branch : x_Mok M_X13_branch := ⟨rfl, q_2472, q_104, ⟨by decide, by decide⟩, by decide⟩
theorem mo_X13_clear : x_Mok M_X13_clear := ⟨rfl, q_2264, q_104, ⟨by decide, by decide⟩, by decide⟩
theorem mo_X13_coefficient : x_Mok M_X13_coefficient := ⟨rfl, q_2231, q_104, ⟨by decide, by decide⟩, by decide⟩
theorem mo_X13_dimension : x_Mok M_X13_dimension := ⟨rfl, q_2398, q_104, ⟨by decide, by decide⟩, by decide⟩
theorem mo_X13_dominant : x_Mok M_X13_dominant := ⟨rfl, q_2444, q_104, ⟨by decide, by decide⟩, by decide⟩
theorem mo_X13_exponent : x_Mok M_X13_exponent := ⟨rfl, q_2243, q_104, ⟨by decide, by decide⟩, by decide⟩
theorem mo_X13_fuse : x_Mok M_X13_fuse := ⟨rfl, q_2463, q_104, ⟨by decide, by decide⟩, by decide⟩
theorem mo_X13_get : x_Mok M_X13_get := ⟨rfl, q_2348, q_104, ⟨by decide, by decide⟩, by decide⟩
theorem mo_X13_goesDown : x_Mok M_X13_goesDown := ⟨rfl, q_2285, q_104, ⟨by decide, by decide⟩, by decide⟩
theorem mo_X13_isBelow_ : x_Mok M_X13_isBelow_ := ⟨rfl, q_2293, q_104, ⟨by decide, by decide⟩, by decide⟩
theorem mo_X13_isConsistent : x_Mok M_X13_isConsistent := ⟨rfl, q_2500, q_104, ⟨by decide, by decide⟩, by decide⟩
theorem mo_X13_isLower : x_Mok M_X13_isLower := ⟨rfl, q_2376, q_104, ⟨by decide, by decide⟩, by decide⟩
theorem mo_X13_isNoRegister : x_Mok M_X13_isNoRegister := ⟨rfl, q_2356, q_104, ⟨by decide, by decide⟩, by decide⟩
theorem mo_X13_isNoSystem : x_Mok M_X13_isNoSystem := ⟨rfl, q_2223, q_104, ⟨by decide, by decide⟩, by decide⟩
theorem mo_X13_isNotDominant : x_Mok M_X13_isNotDominant := ⟨rfl, q_2402, q_104, ⟨by decide, by decide⟩, by decide⟩
theorem mo_X13_keep : x_Mok M_X13_keep := ⟨rfl, q_2289, q_104, ⟨by decide, by decide⟩, by decide⟩
theorem mo_X13_length : x_Mok M_X13_length := ⟨rfl, q_2268, q_104, ⟨by decide, by decide⟩, by decide⟩
theorem mo_X13_matrix : x_Mok M_X13_matrix := ⟨rfl, q_2219, q_104, ⟨by decide, by decide⟩, by decide⟩
theorem mo_X13_meanLength : x_Mok M_X13_meanLength := ⟨rfl, q_2488, q_104, ⟨by decide, by decide⟩, by decide⟩
theorem mo_X13_multiplicity_ : x_Mok M_X13_multiplicity_ := ⟨rfl, q_2413, q_104, ⟨by decide, by decide⟩, by decide⟩
theorem mo_X13_multiply : x_Mok M_X13_multiply := ⟨rfl, q_2448, q_104, ⟨by decide, by decide⟩, by decide⟩
theorem mo_X13_orbit : x_Mok M_X13_orbit := ⟨rfl, q_2368, q_104, ⟨by decide, by decide⟩, by decide⟩
theorem mo_X13_order : x_Mok M_X13_order := ⟨rfl, q_2252, q_104, ⟨by decide, by decide⟩, by decide⟩
theorem mo_X13_pairing_ : x_Mok M_X13_pairing_ := ⟨rfl, q_2372, q_104, ⟨by decide, by decide⟩, by decide⟩
theorem mo_X13_partAt : x_Mok M_X13_partAt := ⟨rfl, q_2476, q_104, ⟨by decide, by decide⟩, by decide⟩
theorem mo_X13_polynomial : x_Mok M_X13_polynomial := ⟨rfl, q_2304, q_104, ⟨by decide, by decide⟩, by decide⟩
theorem mo_X13_put : x_Mok M_X13_put := ⟨rfl, q_2260, q_104, ⟨by decide, by decide⟩, by decide⟩
theorem mo_X13_raise : x_Mok M_X13_raise := ⟨rfl, q_2360, q_104, ⟨by decide, by decide⟩, by decide⟩
theorem mo_X13_ratio : x_Mok M_X13_ratio := ⟨rfl, q_2492, q_104, ⟨by decide, by decide⟩, by decide⟩
theorem mo_X13_reducedAt : x_Mok M_X13_reducedAt := ⟨rfl, q_2281, q_104, ⟨by decide, by decide⟩, by decide⟩
theorem mo_X13_set : x_Mok M_X13_set := ⟨rfl, q_2336, q_104, ⟨by decide, by decide⟩, by decide⟩
theorem mo_X13_square : x_Mok M_X13_square := ⟨rfl, q_2239, q_104, ⟨by decide, by decide⟩, by decide⟩
theorem mo_X13_times : x_Mok M_X13_times := ⟨rfl, q_2484, q_104, ⟨by decide, by decide⟩, by decide⟩
theorem mo_X13_type : x_Mok M_X13_type := ⟨rfl, q_2496, q_104, ⟨by decide, by decide⟩, by decide⟩
theorem mo_X9_act : x_Mok M_X9_act := ⟨rfl, q_937, q_95, ⟨by decide, by decide⟩, by decide⟩
theorem mo_X9_branch : x_Mok M_X9_branch := ⟨rfl, q_1225, q_95, ⟨by decide, by decide⟩, by decide⟩
theorem mo_X9_clear : x_Mok M_X9_clear := ⟨rfl, q_450, q_95, ⟨by decide, by decide⟩, by decide⟩
theorem mo_X9_coefficient : x_Mok M_X9_coefficient := ⟨rfl, q_698, q_95, ⟨by decide, by decide⟩, by decide⟩
theorem mo_X9_dimension : x_Mok M_X9_dimension := ⟨rfl, q_1041, q_95, ⟨by decide, by decide⟩, by decide⟩
theorem mo_X9_dominant : x_Mok M_X9_dominant := ⟨rfl, q_1155, q_95, ⟨by decide, by decide⟩, by decide⟩
theorem mo_X9_exponent : x_Mok M_X9_exponent := ⟨rfl, q_717, q_95, ⟨by decide, by decide⟩, by decide⟩
theorem mo_X9_fuse : x_Mok M_X9_fuse := ⟨rfl, q_1208, q_95, ⟨by decide, by decide⟩, by decide⟩
theorem mo_X9_get : x_Mok M_X9_get := ⟨rfl, q_930, q_95, ⟨by decide, by decide⟩, by decide⟩
theorem mo_X9_goesDown : x_Mok M_X9_goesDown := ⟨rfl, q_797, q_95, ⟨by decide, by decide⟩, by decide⟩
theorem mo_X9_isBelow : x_Mok M_X9_isBelow := ⟨rfl, q_815, q_95, ⟨by decide, by decide⟩, by decide⟩
theorem mo_X9_isConsistent : x_Mok M_X9_isConsistent := ⟨rfl, q_1266, q_95, ⟨by decide, by decide⟩, by decide⟩
theorem mo_X9_isLower : x_Mok M_X9_isLower := ⟨rfl, q_1015, q_95, ⟨by decide, by decide⟩, by decide⟩
theorem mo_X9_keep : x_Mok M_X9_keep := ⟨rfl, q_808, q_95, ⟨by decide, by decide⟩, by decide⟩
theorem mo_X9_length : x_Mok M_X9_length := ⟨rfl, q_755, q_95, ⟨by decide, by decide⟩, by decide⟩
theorem mo_X9_matrix : x_Mok M_X9_matrix := ⟨rfl, q_654, q_95, ⟨by decide, by decide⟩, by decide⟩
theorem mo_X9_meanLength : x_Mok M_X9_meanLength := ⟨rfl, q_1252, q_95, ⟨by decide, by decide⟩, by decide⟩
theorem mo_X9_multiplicity : x_Mok M_X9_multiplicity := ⟨rfl, q_1087, q_95, ⟨by decide, by decide⟩, by decide⟩
theorem mo_X9_multiply : x_Mok M_X9_multiply := ⟨rfl, q_1162, q_95, ⟨by decide, by decide⟩, by decide⟩
theorem mo_X9_orbit : x_Mok M_X9_orbit := ⟨rfl, q_986, q_95, ⟨by decide, by decide⟩, by decide⟩
theorem mo_X9_order : x_Mok M_X9_order := ⟨rfl, q_724, q_95, ⟨by decide, by decide⟩, by decide⟩
theorem mo_X9_pairing : x_Mok M_X9_pairing := ⟨rfl, q_1007, q_95, ⟨by decide, by decide⟩, by decide⟩
theorem mo_X9_partAt : x_Mok M_X9_partAt := ⟨rfl, q_1232, q_95, ⟨by decide, by decide⟩, by decide⟩
theorem mo_X9_polynomial : x_Mok M_X9_polynomial := ⟨rfl, q_831, q_95, ⟨by decide, by decide⟩, by decide⟩
theorem mo_X9_put : x_Mok M_X9_put := ⟨rfl, q_732, q_95, ⟨by decide, by decide⟩, by decide⟩
theorem mo_X9_raise : x_Mok M_X9_raise := ⟨rfl, q_966, q_95, ⟨by decide, by decide⟩, by decide⟩
theorem mo_X9_ratio : x_Mok M_X9_ratio := ⟨rfl, q_1259, q_95, ⟨by decide, by decide⟩, by decide⟩
theorem mo_X9_reducedAt : x_Mok M_X9_reducedAt := ⟨rfl, q_779, q_95, ⟨by decide, by decide⟩, by decide⟩
theorem mo_X9_requireSystem : x_Mok M_X9_requireSystem := ⟨rfl, q_658, q_95, ⟨by decide, by decide⟩, by decide⟩
theorem mo_X9_set : x_Mok M_X9_set := ⟨rfl, q_912, q_95, ⟨by decide, by decide⟩, by decide⟩
theorem mo_X9_square : x_Mok M_X9_square := ⟨rfl, q_710, q_95, ⟨by decide, by decide⟩, by decide⟩
theorem mo_X9_times : x_Mok M_X9_times := ⟨rfl, q_1245, q_95, ⟨by decide, by decide⟩, by decide⟩
theorem mo_X9_type : x_Mok M_X9_type := ⟨rfl, q_454, q_95, ⟨by decide, by decide⟩, by decide⟩
