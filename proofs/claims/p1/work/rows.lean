section
-- ===== PART A: goes FIRST, ahead of the names: the tables' words, and 'selects' of the private methods out of them =====
/-- a private method of a class that the tables say can be made, by its rows of tables_1 -/
def lw_okq (q : MethodName × Nat) : Prop := (q.1.cls ≠ "java/lang/invoke/MethodHandle" ∧ q.1.cls ≠ "java/lang/invoke/VarHandle") ∧ Cond.instantiable q.1.cls q.2 ∈ tables_1 ∧ Cond.privateMethod q.1 ∈ tables_1 ∧ Cond.instanceMethod q.1 ∈ tables_1
theorem lw_p0 : lw_okq (⟨"java/lang/Throwable", "fillInStackTrace", "(I)Ljava/lang/Throwable;"⟩, 6) := ⟨⟨by decide +kernel, by decide +kernel⟩, List.mem_of_getElem? (i := 416) (by decide +kernel), List.mem_of_getElem? (i := 414) (by decide +kernel), List.mem_of_getElem? (i := 415) (by decide +kernel)⟩
theorem lw_p1 : lw_okq (⟨"Weightlattice$Roots", "fillMatrix", "()V"⟩, 14) := ⟨⟨by decide +kernel, by decide +kernel⟩, List.mem_of_getElem? (i := 59) (by decide +kernel), List.mem_of_getElem? (i := 450) (by decide +kernel), List.mem_of_getElem? (i := 451) (by decide +kernel)⟩
theorem lw_p2 : lw_okq (⟨"Weightlattice$Roots", "plainEntry", "(II)I"⟩, 14) := ⟨⟨by decide +kernel, by decide +kernel⟩, List.mem_of_getElem? (i := 59) (by decide +kernel), List.mem_of_getElem? (i := 454) (by decide +kernel), List.mem_of_getElem? (i := 455) (by decide +kernel)⟩
theorem lw_p3 : lw_okq (⟨"Weightlattice$Roots", "findRoots", "()V"⟩, 14) := ⟨⟨by decide +kernel, by decide +kernel⟩, List.mem_of_getElem? (i := 59) (by decide +kernel), List.mem_of_getElem? (i := 458) (by decide +kernel), List.mem_of_getElem? (i := 459) (by decide +kernel)⟩
theorem lw_p4 : lw_okq (⟨"Weightlattice$Roots", "enterCandidate", "()V"⟩, 14) := ⟨⟨by decide +kernel, by decide +kernel⟩, List.mem_of_getElem? (i := 59) (by decide +kernel), List.mem_of_getElem? (i := 462) (by decide +kernel), List.mem_of_getElem? (i := 463) (by decide +kernel)⟩
theorem lw_p5 : lw_okq (⟨"Weightlattice$Roots", "sameAsCandidate", "([I)Z"⟩, 14) := ⟨⟨by decide +kernel, by decide +kernel⟩, List.mem_of_getElem? (i := 59) (by decide +kernel), List.mem_of_getElem? (i := 466) (by decide +kernel), List.mem_of_getElem? (i := 467) (by decide +kernel)⟩
theorem lw_p6 : lw_okq (⟨"Weightlattice$Roots", "climb", "(II)V"⟩, 14) := ⟨⟨by decide +kernel, by decide +kernel⟩, List.mem_of_getElem? (i := 59) (by decide +kernel), List.mem_of_getElem? (i := 470) (by decide +kernel), List.mem_of_getElem? (i := 471) (by decide +kernel)⟩
theorem lw_p7 : lw_okq (⟨"Weightlattice$Roots", "weightOf", "(II)I"⟩, 14) := ⟨⟨by decide +kernel, by decide +kernel⟩, List.mem_of_getElem? (i := 59) (by decide +kernel), List.mem_of_getElem? (i := 474) (by decide +kernel), List.mem_of_getElem? (i := 475) (by decide +kernel)⟩
theorem lw_p8 : lw_okq (⟨"Weightlattice$Roots", "sortRoots", "()V"⟩, 14) := ⟨⟨by decide +kernel, by decide +kernel⟩, List.mem_of_getElem? (i := 59) (by decide +kernel), List.mem_of_getElem? (i := 478) (by decide +kernel), List.mem_of_getElem? (i := 479) (by decide +kernel)⟩
theorem lw_p9 : lw_okq (⟨"Weightlattice$Roots", "comesBefore", "(II)Z"⟩, 14) := ⟨⟨by decide +kernel, by decide +kernel⟩, List.mem_of_getElem? (i := 59) (by decide +kernel), List.mem_of_getElem? (i := 482) (by decide +kernel), List.mem_of_getElem? (i := 483) (by decide +kernel)⟩
theorem lw_p10 : lw_okq (⟨"Weightlattice$Roots", "measureRoots", "()V"⟩, 14) := ⟨⟨by decide +kernel, by decide +kernel⟩, List.mem_of_getElem? (i := 59) (by decide +kernel), List.mem_of_getElem? (i := 486) (by decide +kernel), List.mem_of_getElem? (i := 487) (by decide +kernel)⟩
theorem lw_p11 : lw_okq (⟨"Weightlattice$Roots", "simpleSquare", "(I)I"⟩, 14) := ⟨⟨by decide +kernel, by decide +kernel⟩, List.mem_of_getElem? (i := 59) (by decide +kernel), List.mem_of_getElem? (i := 490) (by decide +kernel), List.mem_of_getElem? (i := 491) (by decide +kernel)⟩
theorem lw_p12 : lw_okq (⟨"Weightlattice$Roots", "findExponents", "()V"⟩, 14) := ⟨⟨by decide +kernel, by decide +kernel⟩, List.mem_of_getElem? (i := 59) (by decide +kernel), List.mem_of_getElem? (i := 494) (by decide +kernel), List.mem_of_getElem? (i := 495) (by decide +kernel)⟩
theorem lw_p13 : lw_okq (⟨"Weightlattice", "requireSystem", "()V"⟩, 11) := ⟨⟨by decide +kernel, by decide +kernel⟩, List.mem_of_getElem? (i := 51) (by decide +kernel), List.mem_of_getElem? (i := 562) (by decide +kernel), List.mem_of_getElem? (i := 563) (by decide +kernel)⟩
theorem lw_p14 : lw_okq (⟨"Weightlattice", "requireSimple", "(I)V"⟩, 11) := ⟨⟨by decide +kernel, by decide +kernel⟩, List.mem_of_getElem? (i := 51) (by decide +kernel), List.mem_of_getElem? (i := 582) (by decide +kernel), List.mem_of_getElem? (i := 583) (by decide +kernel)⟩
theorem lw_p15 : lw_okq (⟨"Weightlattice", "requireRoot", "(I)V"⟩, 11) := ⟨⟨by decide +kernel, by decide +kernel⟩, List.mem_of_getElem? (i := 51) (by decide +kernel), List.mem_of_getElem? (i := 606) (by decide +kernel), List.mem_of_getElem? (i := 607) (by decide +kernel)⟩
def lw_privs_1 : List (MethodName × Nat) := [(⟨"java/lang/Throwable", "fillInStackTrace", "(I)Ljava/lang/Throwable;"⟩, 6), (⟨"Weightlattice$Roots", "fillMatrix", "()V"⟩, 14), (⟨"Weightlattice$Roots", "plainEntry", "(II)I"⟩, 14), (⟨"Weightlattice$Roots", "findRoots", "()V"⟩, 14), (⟨"Weightlattice$Roots", "enterCandidate", "()V"⟩, 14), (⟨"Weightlattice$Roots", "sameAsCandidate", "([I)Z"⟩, 14), (⟨"Weightlattice$Roots", "climb", "(II)V"⟩, 14), (⟨"Weightlattice$Roots", "weightOf", "(II)I"⟩, 14), (⟨"Weightlattice$Roots", "sortRoots", "()V"⟩, 14), (⟨"Weightlattice$Roots", "comesBefore", "(II)Z"⟩, 14), (⟨"Weightlattice$Roots", "measureRoots", "()V"⟩, 14), (⟨"Weightlattice$Roots", "simpleSquare", "(I)I"⟩, 14), (⟨"Weightlattice$Roots", "findExponents", "()V"⟩, 14), (⟨"Weightlattice", "requireSystem", "()V"⟩, 11), (⟨"Weightlattice", "requireSimple", "(I)V"⟩, 11), (⟨"Weightlattice", "requireRoot", "(I)V"⟩, 11)]
theorem lw_r1 : ∀ q ∈ lw_privs_1, lw_okq q := List.forall_mem_cons.mpr ⟨lw_p0, List.forall_mem_cons.mpr ⟨lw_p1, List.forall_mem_cons.mpr ⟨lw_p2, List.forall_mem_cons.mpr ⟨lw_p3, List.forall_mem_cons.mpr ⟨lw_p4, List.forall_mem_cons.mpr ⟨lw_p5, List.forall_mem_cons.mpr ⟨lw_p6, List.forall_mem_cons.mpr ⟨lw_p7, List.forall_mem_cons.mpr ⟨lw_p8, List.forall_mem_cons.mpr ⟨lw_p9, List.forall_mem_cons.mpr ⟨lw_p10, List.forall_mem_cons.mpr ⟨lw_p11, List.forall_mem_cons.mpr ⟨lw_p12, List.forall_mem_cons.mpr ⟨lw_p13, List.forall_mem_cons.mpr ⟨lw_p14, List.forall_mem_cons.mpr ⟨lw_p15, fun _ h => absurd h List.not_mem_nil⟩⟩⟩⟩⟩⟩⟩⟩⟩⟩⟩⟩⟩⟩⟩⟩
theorem lw_p16 : lw_okq (⟨"Weightlattice", "wordIsUnderKept", "()Z"⟩, 11) := ⟨⟨by decide +kernel, by decide +kernel⟩, List.mem_of_getElem? (i := 51) (by decide +kernel), List.mem_of_getElem? (i := 723) (by decide +kernel), List.mem_of_getElem? (i := 724) (by decide +kernel)⟩
theorem lw_p17 : lw_okq (⟨"Weightlattice$Polynomials", "fill", "()V"⟩, 7) := ⟨⟨by decide +kernel, by decide +kernel⟩, List.mem_of_getElem? (i := 159) (by decide +kernel), List.mem_of_getElem? (i := 762) (by decide +kernel), List.mem_of_getElem? (i := 763) (by decide +kernel)⟩
theorem lw_p18 : lw_okq (⟨"Weightlattice$Polynomials", "findElements", "()V"⟩, 7) := ⟨⟨by decide +kernel, by decide +kernel⟩, List.mem_of_getElem? (i := 159) (by decide +kernel), List.mem_of_getElem? (i := 766) (by decide +kernel), List.mem_of_getElem? (i := 767) (by decide +kernel)⟩
theorem lw_p19 : lw_okq (⟨"Weightlattice$Polynomials", "enter", "(JI)I"⟩, 7) := ⟨⟨by decide +kernel, by decide +kernel⟩, List.mem_of_getElem? (i := 159) (by decide +kernel), List.mem_of_getElem? (i := 776) (by decide +kernel), List.mem_of_getElem? (i := 777) (by decide +kernel)⟩
theorem lw_p20 : lw_okq (⟨"Weightlattice$Polynomials", "climb", "(II)V"⟩, 7) := ⟨⟨by decide +kernel, by decide +kernel⟩, List.mem_of_getElem? (i := 159) (by decide +kernel), List.mem_of_getElem? (i := 780) (by decide +kernel), List.mem_of_getElem? (i := 781) (by decide +kernel)⟩
theorem lw_p21 : lw_okq (⟨"Weightlattice$Polynomials", "find", "(JI)I"⟩, 7) := ⟨⟨by decide +kernel, by decide +kernel⟩, List.mem_of_getElem? (i := 159) (by decide +kernel), List.mem_of_getElem? (i := 792) (by decide +kernel), List.mem_of_getElem? (i := 793) (by decide +kernel)⟩
theorem lw_p22 : lw_okq (⟨"Weightlattice$Polynomials", "fillRow", "(I)V"⟩, 7) := ⟨⟨by decide +kernel, by decide +kernel⟩, List.mem_of_getElem? (i := 159) (by decide +kernel), List.mem_of_getElem? (i := 796) (by decide +kernel), List.mem_of_getElem? (i := 797) (by decide +kernel)⟩
theorem lw_p23 : lw_okq (⟨"Weightlattice$Polynomials", "firstDown", "(I)I"⟩, 7) := ⟨⟨by decide +kernel, by decide +kernel⟩, List.mem_of_getElem? (i := 159) (by decide +kernel), List.mem_of_getElem? (i := 800) (by decide +kernel), List.mem_of_getElem? (i := 801) (by decide +kernel)⟩
theorem lw_p24 : lw_okq (⟨"Weightlattice$Polynomials", "leadingOf", "(II)J"⟩, 7) := ⟨⟨by decide +kernel, by decide +kernel⟩, List.mem_of_getElem? (i := 159) (by decide +kernel), List.mem_of_getElem? (i := 804) (by decide +kernel), List.mem_of_getElem? (i := 805) (by decide +kernel)⟩
theorem lw_p25 : lw_okq (⟨"Weightlattice$Polynomials", "takeAway", "(IIIJ)V"⟩, 7) := ⟨⟨by decide +kernel, by decide +kernel⟩, List.mem_of_getElem? (i := 159) (by decide +kernel), List.mem_of_getElem? (i := 809) (by decide +kernel), List.mem_of_getElem? (i := 810) (by decide +kernel)⟩
theorem lw_p26 : lw_okq (⟨"Weightlattice", "requireRegister", "(I)V"⟩, 11) := ⟨⟨by decide +kernel, by decide +kernel⟩, List.mem_of_getElem? (i := 51) (by decide +kernel), List.mem_of_getElem? (i := 820) (by decide +kernel), List.mem_of_getElem? (i := 821) (by decide +kernel)⟩
theorem lw_p27 : lw_okq (⟨"Weightlattice$Register", "liftOnce", "()Z"⟩, 3) := ⟨⟨by decide +kernel, by decide +kernel⟩, List.mem_of_getElem? (i := 303) (by decide +kernel), List.mem_of_getElem? (i := 878) (by decide +kernel), List.mem_of_getElem? (i := 879) (by decide +kernel)⟩
theorem lw_p28 : lw_okq (⟨"Weightlattice", "liftedInto", "([JI)V"⟩, 11) := ⟨⟨by decide +kernel, by decide +kernel⟩, List.mem_of_getElem? (i := 51) (by decide +kernel), List.mem_of_getElem? (i := 894) (by decide +kernel), List.mem_of_getElem? (i := 895) (by decide +kernel)⟩
theorem lw_p29 : lw_okq (⟨"Weightlattice", "requireDominant", "(I)V"⟩, 11) := ⟨⟨by decide +kernel, by decide +kernel⟩, List.mem_of_getElem? (i := 51) (by decide +kernel), List.mem_of_getElem? (i := 949) (by decide +kernel), List.mem_of_getElem? (i := 950) (by decide +kernel)⟩
theorem lw_p30 : lw_okq (⟨"Weightlattice", "isHighest", "(I)Z"⟩, 11) := ⟨⟨by decide +kernel, by decide +kernel⟩, List.mem_of_getElem? (i := 51) (by decide +kernel), List.mem_of_getElem? (i := 953) (by decide +kernel), List.mem_of_getElem? (i := 954) (by decide +kernel)⟩
theorem lw_p31 : lw_okq (⟨"Weightlattice", "moduleSize", "(I)J"⟩, 11) := ⟨⟨by decide +kernel, by decide +kernel⟩, List.mem_of_getElem? (i := 51) (by decide +kernel), List.mem_of_getElem? (i := 963) (by decide +kernel), List.mem_of_getElem? (i := 964) (by decide +kernel)⟩
def lw_privs_2 : List (MethodName × Nat) := [(⟨"Weightlattice", "wordIsUnderKept", "()Z"⟩, 11), (⟨"Weightlattice$Polynomials", "fill", "()V"⟩, 7), (⟨"Weightlattice$Polynomials", "findElements", "()V"⟩, 7), (⟨"Weightlattice$Polynomials", "enter", "(JI)I"⟩, 7), (⟨"Weightlattice$Polynomials", "climb", "(II)V"⟩, 7), (⟨"Weightlattice$Polynomials", "find", "(JI)I"⟩, 7), (⟨"Weightlattice$Polynomials", "fillRow", "(I)V"⟩, 7), (⟨"Weightlattice$Polynomials", "firstDown", "(I)I"⟩, 7), (⟨"Weightlattice$Polynomials", "leadingOf", "(II)J"⟩, 7), (⟨"Weightlattice$Polynomials", "takeAway", "(IIIJ)V"⟩, 7), (⟨"Weightlattice", "requireRegister", "(I)V"⟩, 11), (⟨"Weightlattice$Register", "liftOnce", "()Z"⟩, 3), (⟨"Weightlattice", "liftedInto", "([JI)V"⟩, 11), (⟨"Weightlattice", "requireDominant", "(I)V"⟩, 11), (⟨"Weightlattice", "isHighest", "(I)Z"⟩, 11), (⟨"Weightlattice", "moduleSize", "(I)J"⟩, 11)]
theorem lw_r2 : ∀ q ∈ lw_privs_2, lw_okq q := List.forall_mem_cons.mpr ⟨lw_p16, List.forall_mem_cons.mpr ⟨lw_p17, List.forall_mem_cons.mpr ⟨lw_p18, List.forall_mem_cons.mpr ⟨lw_p19, List.forall_mem_cons.mpr ⟨lw_p20, List.forall_mem_cons.mpr ⟨lw_p21, List.forall_mem_cons.mpr ⟨lw_p22, List.forall_mem_cons.mpr ⟨lw_p23, List.forall_mem_cons.mpr ⟨lw_p24, List.forall_mem_cons.mpr ⟨lw_p25, List.forall_mem_cons.mpr ⟨lw_p26, List.forall_mem_cons.mpr ⟨lw_p27, List.forall_mem_cons.mpr ⟨lw_p28, List.forall_mem_cons.mpr ⟨lw_p29, List.forall_mem_cons.mpr ⟨lw_p30, List.forall_mem_cons.mpr ⟨lw_p31, fun _ h => absurd h List.not_mem_nil⟩⟩⟩⟩⟩⟩⟩⟩⟩⟩⟩⟩⟩⟩⟩⟩
theorem lw_p32 : lw_okq (⟨"Weightlattice", "requireSmall", "(I)V"⟩, 11) := ⟨⟨by decide +kernel, by decide +kernel⟩, List.mem_of_getElem? (i := 51) (by decide +kernel), List.mem_of_getElem? (i := 995) (by decide +kernel), List.mem_of_getElem? (i := 996) (by decide +kernel)⟩
theorem lw_p33 : lw_okq (⟨"Weightlattice$Weights", "shiftedNorm", "([J)J"⟩, 11) := ⟨⟨by decide +kernel, by decide +kernel⟩, List.mem_of_getElem? (i := 190) (by decide +kernel), List.mem_of_getElem? (i := 1009) (by decide +kernel), List.mem_of_getElem? (i := 1010) (by decide +kernel)⟩
theorem lw_p34 : lw_okq (⟨"Weightlattice$Weights", "enter", "([J)V"⟩, 11) := ⟨⟨by decide +kernel, by decide +kernel⟩, List.mem_of_getElem? (i := 190) (by decide +kernel), List.mem_of_getElem? (i := 1017) (by decide +kernel), List.mem_of_getElem? (i := 1018) (by decide +kernel)⟩
theorem lw_p35 : lw_okq (⟨"Weightlattice$Weights", "find", "(J)I"⟩, 11) := ⟨⟨by decide +kernel, by decide +kernel⟩, List.mem_of_getElem? (i := 190) (by decide +kernel), List.mem_of_getElem? (i := 1021) (by decide +kernel), List.mem_of_getElem? (i := 1022) (by decide +kernel)⟩
theorem lw_p36 : lw_okq (⟨"Weightlattice$Weights", "countByStrings", "()I"⟩, 11) := ⟨⟨by decide +kernel, by decide +kernel⟩, List.mem_of_getElem? (i := 190) (by decide +kernel), List.mem_of_getElem? (i := 1027) (by decide +kernel), List.mem_of_getElem? (i := 1028) (by decide +kernel)⟩
theorem lw_p37 : lw_okq (⟨"Weightlattice$Weights", "sumOfString", "(I)J"⟩, 11) := ⟨⟨by decide +kernel, by decide +kernel⟩, List.mem_of_getElem? (i := 190) (by decide +kernel), List.mem_of_getElem? (i := 1031) (by decide +kernel), List.mem_of_getElem? (i := 1032) (by decide +kernel)⟩
theorem lw_p38 : lw_okq (⟨"Weightlattice$Weights", "enterLower", "(I)V"⟩, 11) := ⟨⟨by decide +kernel, by decide +kernel⟩, List.mem_of_getElem? (i := 190) (by decide +kernel), List.mem_of_getElem? (i := 1045) (by decide +kernel), List.mem_of_getElem? (i := 1046) (by decide +kernel)⟩
theorem lw_p39 : lw_okq (⟨"Weightlattice$Weights", "spread", "()V"⟩, 11) := ⟨⟨by decide +kernel, by decide +kernel⟩, List.mem_of_getElem? (i := 190) (by decide +kernel), List.mem_of_getElem? (i := 1050) (by decide +kernel), List.mem_of_getElem? (i := 1051) (by decide +kernel)⟩
theorem lw_p40 : lw_okq (⟨"Weightlattice$Splitter", "straighten", "(II)I"⟩, 3) := ⟨⟨by decide +kernel, by decide +kernel⟩, List.mem_of_getElem? (i := 239) (by decide +kernel), List.mem_of_getElem? (i := 1076) (by decide +kernel), List.mem_of_getElem? (i := 1077) (by decide +kernel)⟩
theorem lw_p41 : lw_okq (⟨"Weightlattice$Splitter", "firstNotAbove", "(I)I"⟩, 3) := ⟨⟨by decide +kernel, by decide +kernel⟩, List.mem_of_getElem? (i := 239) (by decide +kernel), List.mem_of_getElem? (i := 1081) (by decide +kernel), List.mem_of_getElem? (i := 1082) (by decide +kernel)⟩
theorem lw_p42 : lw_okq (⟨"Weightlattice$Splitter", "beyond", "(I)J"⟩, 3) := ⟨⟨by decide +kernel, by decide +kernel⟩, List.mem_of_getElem? (i := 239) (by decide +kernel), List.mem_of_getElem? (i := 1085) (by decide +kernel), List.mem_of_getElem? (i := 1086) (by decide +kernel)⟩
theorem lw_p43 : lw_okq (⟨"Weightlattice$Splitter", "crossWall", "(J)V"⟩, 3) := ⟨⟨by decide +kernel, by decide +kernel⟩, List.mem_of_getElem? (i := 239) (by decide +kernel), List.mem_of_getElem? (i := 1091) (by decide +kernel), List.mem_of_getElem? (i := 1092) (by decide +kernel)⟩
theorem lw_p44 : lw_okq (⟨"Weightlattice$Sum", "placeOf", "(J)I"⟩, 3) := ⟨⟨by decide +kernel, by decide +kernel⟩, List.mem_of_getElem? (i := 245) (by decide +kernel), List.mem_of_getElem? (i := 1101) (by decide +kernel), List.mem_of_getElem? (i := 1102) (by decide +kernel)⟩
theorem lw_p45 : lw_okq (⟨"Weightlattice", "requireLevel", "(III)V"⟩, 11) := ⟨⟨by decide +kernel, by decide +kernel⟩, List.mem_of_getElem? (i := 51) (by decide +kernel), List.mem_of_getElem? (i := 1116) (by decide +kernel), List.mem_of_getElem? (i := 1117) (by decide +kernel)⟩
theorem lw_p46 : lw_okq (⟨"Weightlattice", "requirePart", "(I)V"⟩, 11) := ⟨⟨by decide +kernel, by decide +kernel⟩, List.mem_of_getElem? (i := 51) (by decide +kernel), List.mem_of_getElem? (i := 1140) (by decide +kernel), List.mem_of_getElem? (i := 1141) (by decide +kernel)⟩
theorem lw_p47 : lw_okq (⟨"Weightlattice$Checker", "lowerAll", "(LWeightlattice$Sum;LWeightlattice$Sum;I)V"⟩, 5) := ⟨⟨by decide +kernel, by decide +kernel⟩, List.mem_of_getElem? (i := 278) (by decide +kernel), List.mem_of_getElem? (i := 1191) (by decide +kernel), List.mem_of_getElem? (i := 1192) (by decide +kernel)⟩
def lw_privs_3 : List (MethodName × Nat) := [(⟨"Weightlattice", "requireSmall", "(I)V"⟩, 11), (⟨"Weightlattice$Weights", "shiftedNorm", "([J)J"⟩, 11), (⟨"Weightlattice$Weights", "enter", "([J)V"⟩, 11), (⟨"Weightlattice$Weights", "find", "(J)I"⟩, 11), (⟨"Weightlattice$Weights", "countByStrings", "()I"⟩, 11), (⟨"Weightlattice$Weights", "sumOfString", "(I)J"⟩, 11), (⟨"Weightlattice$Weights", "enterLower", "(I)V"⟩, 11), (⟨"Weightlattice$Weights", "spread", "()V"⟩, 11), (⟨"Weightlattice$Splitter", "straighten", "(II)I"⟩, 3), (⟨"Weightlattice$Splitter", "firstNotAbove", "(I)I"⟩, 3), (⟨"Weightlattice$Splitter", "beyond", "(I)J"⟩, 3), (⟨"Weightlattice$Splitter", "crossWall", "(J)V"⟩, 3), (⟨"Weightlattice$Sum", "placeOf", "(J)I"⟩, 3), (⟨"Weightlattice", "requireLevel", "(III)V"⟩, 11), (⟨"Weightlattice", "requirePart", "(I)V"⟩, 11), (⟨"Weightlattice$Checker", "lowerAll", "(LWeightlattice$Sum;LWeightlattice$Sum;I)V"⟩, 5)]
theorem lw_r3 : ∀ q ∈ lw_privs_3, lw_okq q := List.forall_mem_cons.mpr ⟨lw_p32, List.forall_mem_cons.mpr ⟨lw_p33, List.forall_mem_cons.mpr ⟨lw_p34, List.forall_mem_cons.mpr ⟨lw_p35, List.forall_mem_cons.mpr ⟨lw_p36, List.forall_mem_cons.mpr ⟨lw_p37, List.forall_mem_cons.mpr ⟨lw_p38, List.forall_mem_cons.mpr ⟨lw_p39, List.forall_mem_cons.mpr ⟨lw_p40, List.forall_mem_cons.mpr ⟨lw_p41, List.forall_mem_cons.mpr ⟨lw_p42, List.forall_mem_cons.mpr ⟨lw_p43, List.forall_mem_cons.mpr ⟨lw_p44, List.forall_mem_cons.mpr ⟨lw_p45, List.forall_mem_cons.mpr ⟨lw_p46, List.forall_mem_cons.mpr ⟨lw_p47, fun _ h => absurd h List.not_mem_nil⟩⟩⟩⟩⟩⟩⟩⟩⟩⟩⟩⟩⟩⟩⟩⟩
theorem lw_p48 : lw_okq (⟨"Weightlattice$Checker", "addString", "(LWeightlattice$Sum;III)V"⟩, 5) := ⟨⟨by decide +kernel, by decide +kernel⟩, List.mem_of_getElem? (i := 278) (by decide +kernel), List.mem_of_getElem? (i := 1196) (by decide +kernel), List.mem_of_getElem? (i := 1197) (by decide +kernel)⟩
theorem lw_p49 : lw_okq (⟨"Weightlattice$Checker", "move", "(II)V"⟩, 5) := ⟨⟨by decide +kernel, by decide +kernel⟩, List.mem_of_getElem? (i := 278) (by decide +kernel), List.mem_of_getElem? (i := 1201) (by decide +kernel), List.mem_of_getElem? (i := 1202) (by decide +kernel)⟩
theorem lw_p50 : lw_okq (⟨"Weightlattice$Checker", "isSame", "(LWeightlattice$Weights;LWeightlattice$Sum;)Z"⟩, 5) := ⟨⟨by decide +kernel, by decide +kernel⟩, List.mem_of_getElem? (i := 278) (by decide +kernel), List.mem_of_getElem? (i := 1206) (by decide +kernel), List.mem_of_getElem? (i := 1207) (by decide +kernel)⟩
theorem lw_p51 : lw_okq (⟨"WeightlatticeModel", "isWrong", "(I)Z"⟩, 11) := ⟨⟨by decide +kernel, by decide +kernel⟩, List.mem_of_getElem? (i := 1211) (by decide +kernel), List.mem_of_getElem? (i := 1292) (by decide +kernel), List.mem_of_getElem? (i := 1293) (by decide +kernel)⟩
theorem lw_p52 : lw_okq (⟨"WeightlatticeModel", "rho", "()[I"⟩, 11) := ⟨⟨by decide +kernel, by decide +kernel⟩, List.mem_of_getElem? (i := 1211) (by decide +kernel), List.mem_of_getElem? (i := 1315) (by decide +kernel), List.mem_of_getElem? (i := 1316) (by decide +kernel)⟩
theorem lw_p53 : lw_okq (⟨"WeightlatticeModel", "findRoots", "()V"⟩, 11) := ⟨⟨by decide +kernel, by decide +kernel⟩, List.mem_of_getElem? (i := 1211) (by decide +kernel), List.mem_of_getElem? (i := 1322) (by decide +kernel), List.mem_of_getElem? (i := 1323) (by decide +kernel)⟩
theorem lw_p54 : lw_okq (⟨"java/util/ArrayList", "add", "(Ljava/lang/Object;[Ljava/lang/Object;I)V"⟩, 3) := ⟨⟨by decide +kernel, by decide +kernel⟩, List.mem_of_getElem? (i := 1218) (by decide +kernel), List.mem_of_getElem? (i := 1335) (by decide +kernel), List.mem_of_getElem? (i := 1336) (by decide +kernel)⟩
theorem lw_p55 : lw_okq (⟨"java/util/ArrayList", "grow", "()[Ljava/lang/Object;"⟩, 3) := ⟨⟨by decide +kernel, by decide +kernel⟩, List.mem_of_getElem? (i := 1218) (by decide +kernel), List.mem_of_getElem? (i := 1339) (by decide +kernel), List.mem_of_getElem? (i := 1340) (by decide +kernel)⟩
theorem lw_p56 : lw_okq (⟨"java/util/ArrayList", "grow", "(I)[Ljava/lang/Object;"⟩, 3) := ⟨⟨by decide +kernel, by decide +kernel⟩, List.mem_of_getElem? (i := 1218) (by decide +kernel), List.mem_of_getElem? (i := 1343) (by decide +kernel), List.mem_of_getElem? (i := 1344) (by decide +kernel)⟩
theorem lw_p57 : lw_okq (⟨"java/util/ComparableTimSort", "pushRun", "(II)V"⟩, 8) := ⟨⟨by decide +kernel, by decide +kernel⟩, List.mem_of_getElem? (i := 1903) (by decide +kernel), List.mem_of_getElem? (i := 1939) (by decide +kernel), List.mem_of_getElem? (i := 1940) (by decide +kernel)⟩
theorem lw_p58 : lw_okq (⟨"java/util/ComparableTimSort", "mergeCollapse", "()V"⟩, 8) := ⟨⟨by decide +kernel, by decide +kernel⟩, List.mem_of_getElem? (i := 1903) (by decide +kernel), List.mem_of_getElem? (i := 1943) (by decide +kernel), List.mem_of_getElem? (i := 1944) (by decide +kernel)⟩
theorem lw_p59 : lw_okq (⟨"java/util/ComparableTimSort", "mergeAt", "(I)V"⟩, 8) := ⟨⟨by decide +kernel, by decide +kernel⟩, List.mem_of_getElem? (i := 1903) (by decide +kernel), List.mem_of_getElem? (i := 1947) (by decide +kernel), List.mem_of_getElem? (i := 1948) (by decide +kernel)⟩
theorem lw_p60 : lw_okq (⟨"java/util/ComparableTimSort", "mergeLo", "(IIII)V"⟩, 8) := ⟨⟨by decide +kernel, by decide +kernel⟩, List.mem_of_getElem? (i := 1903) (by decide +kernel), List.mem_of_getElem? (i := 1957) (by decide +kernel), List.mem_of_getElem? (i := 1958) (by decide +kernel)⟩
theorem lw_p61 : lw_okq (⟨"java/util/ComparableTimSort", "ensureCapacity", "(I)[Ljava/lang/Object;"⟩, 8) := ⟨⟨by decide +kernel, by decide +kernel⟩, List.mem_of_getElem? (i := 1903) (by decide +kernel), List.mem_of_getElem? (i := 1961) (by decide +kernel), List.mem_of_getElem? (i := 1962) (by decide +kernel)⟩
theorem lw_p62 : lw_okq (⟨"java/util/ComparableTimSort", "mergeHi", "(IIII)V"⟩, 8) := ⟨⟨by decide +kernel, by decide +kernel⟩, List.mem_of_getElem? (i := 1903) (by decide +kernel), List.mem_of_getElem? (i := 1970) (by decide +kernel), List.mem_of_getElem? (i := 1971) (by decide +kernel)⟩
theorem lw_p63 : lw_okq (⟨"java/util/ComparableTimSort", "mergeForceCollapse", "()V"⟩, 8) := ⟨⟨by decide +kernel, by decide +kernel⟩, List.mem_of_getElem? (i := 1903) (by decide +kernel), List.mem_of_getElem? (i := 1974) (by decide +kernel), List.mem_of_getElem? (i := 1975) (by decide +kernel)⟩
def lw_privs_4 : List (MethodName × Nat) := [(⟨"Weightlattice$Checker", "addString", "(LWeightlattice$Sum;III)V"⟩, 5), (⟨"Weightlattice$Checker", "move", "(II)V"⟩, 5), (⟨"Weightlattice$Checker", "isSame", "(LWeightlattice$Weights;LWeightlattice$Sum;)Z"⟩, 5), (⟨"WeightlatticeModel", "isWrong", "(I)Z"⟩, 11), (⟨"WeightlatticeModel", "rho", "()[I"⟩, 11), (⟨"WeightlatticeModel", "findRoots", "()V"⟩, 11), (⟨"java/util/ArrayList", "add", "(Ljava/lang/Object;[Ljava/lang/Object;I)V"⟩, 3), (⟨"java/util/ArrayList", "grow", "()[Ljava/lang/Object;"⟩, 3), (⟨"java/util/ArrayList", "grow", "(I)[Ljava/lang/Object;"⟩, 3), (⟨"java/util/ComparableTimSort", "pushRun", "(II)V"⟩, 8), (⟨"java/util/ComparableTimSort", "mergeCollapse", "()V"⟩, 8), (⟨"java/util/ComparableTimSort", "mergeAt", "(I)V"⟩, 8), (⟨"java/util/ComparableTimSort", "mergeLo", "(IIII)V"⟩, 8), (⟨"java/util/ComparableTimSort", "ensureCapacity", "(I)[Ljava/lang/Object;"⟩, 8), (⟨"java/util/ComparableTimSort", "mergeHi", "(IIII)V"⟩, 8), (⟨"java/util/ComparableTimSort", "mergeForceCollapse", "()V"⟩, 8)]
theorem lw_r4 : ∀ q ∈ lw_privs_4, lw_okq q := List.forall_mem_cons.mpr ⟨lw_p48, List.forall_mem_cons.mpr ⟨lw_p49, List.forall_mem_cons.mpr ⟨lw_p50, List.forall_mem_cons.mpr ⟨lw_p51, List.forall_mem_cons.mpr ⟨lw_p52, List.forall_mem_cons.mpr ⟨lw_p53, List.forall_mem_cons.mpr ⟨lw_p54, List.forall_mem_cons.mpr ⟨lw_p55, List.forall_mem_cons.mpr ⟨lw_p56, List.forall_mem_cons.mpr ⟨lw_p57, List.forall_mem_cons.mpr ⟨lw_p58, List.forall_mem_cons.mpr ⟨lw_p59, List.forall_mem_cons.mpr ⟨lw_p60, List.forall_mem_cons.mpr ⟨lw_p61, List.forall_mem_cons.mpr ⟨lw_p62, List.forall_mem_cons.mpr ⟨lw_p63, fun _ h => absurd h List.not_mem_nil⟩⟩⟩⟩⟩⟩⟩⟩⟩⟩⟩⟩⟩⟩⟩⟩
theorem lw_p64 : lw_okq (⟨"WeightlatticeModel", "lengthOf", "([I)I"⟩, 11) := ⟨⟨by decide +kernel, by decide +kernel⟩, List.mem_of_getElem? (i := 1211) (by decide +kernel), List.mem_of_getElem? (i := 2018) (by decide +kernel), List.mem_of_getElem? (i := 2019) (by decide +kernel)⟩
theorem lw_p65 : lw_okq (⟨"WeightlatticeModel", "pairing", "([I[I)I"⟩, 11) := ⟨⟨by decide +kernel, by decide +kernel⟩, List.mem_of_getElem? (i := 1211) (by decide +kernel), List.mem_of_getElem? (i := 2095) (by decide +kernel), List.mem_of_getElem? (i := 2096) (by decide +kernel)⟩
theorem lw_p66 : lw_okq (⟨"WeightlatticeModel", "squareOf", "([I)I"⟩, 11) := ⟨⟨by decide +kernel, by decide +kernel⟩, List.mem_of_getElem? (i := 1211) (by decide +kernel), List.mem_of_getElem? (i := 2099) (by decide +kernel), List.mem_of_getElem? (i := 2100) (by decide +kernel)⟩
theorem lw_p67 : lw_okq (⟨"WeightlatticeModel", "isNoSystem", "()Z"⟩, 11) := ⟨⟨by decide +kernel, by decide +kernel⟩, List.mem_of_getElem? (i := 1211) (by decide +kernel), List.mem_of_getElem? (i := 2127) (by decide +kernel), List.mem_of_getElem? (i := 2128) (by decide +kernel)⟩
theorem lw_p68 : lw_okq (⟨"WeightlatticeModel", "isSimple", "(I)Z"⟩, 11) := ⟨⟨by decide +kernel, by decide +kernel⟩, List.mem_of_getElem? (i := 1211) (by decide +kernel), List.mem_of_getElem? (i := 2131) (by decide +kernel), List.mem_of_getElem? (i := 2132) (by decide +kernel)⟩
theorem lw_p69 : lw_okq (⟨"WeightlatticeModel", "isRoot", "(I)Z"⟩, 11) := ⟨⟨by decide +kernel, by decide +kernel⟩, List.mem_of_getElem? (i := 1211) (by decide +kernel), List.mem_of_getElem? (i := 2139) (by decide +kernel), List.mem_of_getElem? (i := 2140) (by decide +kernel)⟩
theorem lw_p70 : lw_okq (⟨"WeightlatticeModel", "exponentAt", "(I)I"⟩, 11) := ⟨⟨by decide +kernel, by decide +kernel⟩, List.mem_of_getElem? (i := 1211) (by decide +kernel), List.mem_of_getElem? (i := 2151) (by decide +kernel), List.mem_of_getElem? (i := 2152) (by decide +kernel)⟩
theorem lw_p71 : lw_okq (⟨"WeightlatticeModel", "orderOf", "()J"⟩, 11) := ⟨⟨by decide +kernel, by decide +kernel⟩, List.mem_of_getElem? (i := 1211) (by decide +kernel), List.mem_of_getElem? (i := 2160) (by decide +kernel), List.mem_of_getElem? (i := 2161) (by decide +kernel)⟩
theorem lw_p72 : lw_okq (⟨"WeightlatticeModel", "acted", "([I)[I"⟩, 11) := ⟨⟨by decide +kernel, by decide +kernel⟩, List.mem_of_getElem? (i := 1211) (by decide +kernel), List.mem_of_getElem? (i := 2176) (by decide +kernel), List.mem_of_getElem? (i := 2177) (by decide +kernel)⟩
theorem lw_p73 : lw_okq (⟨"WeightlatticeModel", "mirrored", "(I[I)[I"⟩, 11) := ⟨⟨by decide +kernel, by decide +kernel⟩, List.mem_of_getElem? (i := 1211) (by decide +kernel), List.mem_of_getElem? (i := 2180) (by decide +kernel), List.mem_of_getElem? (i := 2181) (by decide +kernel)⟩
theorem lw_p74 : lw_okq (⟨"WeightlatticeModel", "isBelow", "([I[I)Z"⟩, 11) := ⟨⟨by decide +kernel, by decide +kernel⟩, List.mem_of_getElem? (i := 1211) (by decide +kernel), List.mem_of_getElem? (i := 2201) (by decide +kernel), List.mem_of_getElem? (i := 2202) (by decide +kernel)⟩
theorem lw_p75 : lw_okq (⟨"WeightlatticeModel", "polynomials", "()[[[I"⟩, 11) := ⟨⟨by decide +kernel, by decide +kernel⟩, List.mem_of_getElem? (i := 1211) (by decide +kernel), List.mem_of_getElem? (i := 2213) (by decide +kernel), List.mem_of_getElem? (i := 2214) (by decide +kernel)⟩
theorem lw_p76 : lw_okq (⟨"WeightlatticeModel", "elements", "()Ljava/util/List;"⟩, 11) := ⟨⟨by decide +kernel, by decide +kernel⟩, List.mem_of_getElem? (i := 1211) (by decide +kernel), List.mem_of_getElem? (i := 2217) (by decide +kernel), List.mem_of_getElem? (i := 2218) (by decide +kernel)⟩
theorem lw_p77 : lw_okq (⟨"WeightlatticeModel", "fill", "([[[ILjava/util/List;II)V"⟩, 11) := ⟨⟨by decide +kernel, by decide +kernel⟩, List.mem_of_getElem? (i := 1211) (by decide +kernel), List.mem_of_getElem? (i := 2233) (by decide +kernel), List.mem_of_getElem? (i := 2234) (by decide +kernel)⟩
theorem lw_p78 : lw_okq (⟨"WeightlatticeModel", "isPlace", "(II)Z"⟩, 11) := ⟨⟨by decide +kernel, by decide +kernel⟩, List.mem_of_getElem? (i := 1211) (by decide +kernel), List.mem_of_getElem? (i := 2244) (by decide +kernel), List.mem_of_getElem? (i := 2245) (by decide +kernel)⟩
theorem lw_p79 : lw_okq (⟨"WeightlatticeModel", "isRegister", "(I)Z"⟩, 11) := ⟨⟨by decide +kernel, by decide +kernel⟩, List.mem_of_getElem? (i := 1211) (by decide +kernel), List.mem_of_getElem? (i := 2248) (by decide +kernel), List.mem_of_getElem? (i := 2249) (by decide +kernel)⟩
def lw_privs_5 : List (MethodName × Nat) := [(⟨"WeightlatticeModel", "lengthOf", "([I)I"⟩, 11), (⟨"WeightlatticeModel", "pairing", "([I[I)I"⟩, 11), (⟨"WeightlatticeModel", "squareOf", "([I)I"⟩, 11), (⟨"WeightlatticeModel", "isNoSystem", "()Z"⟩, 11), (⟨"WeightlatticeModel", "isSimple", "(I)Z"⟩, 11), (⟨"WeightlatticeModel", "isRoot", "(I)Z"⟩, 11), (⟨"WeightlatticeModel", "exponentAt", "(I)I"⟩, 11), (⟨"WeightlatticeModel", "orderOf", "()J"⟩, 11), (⟨"WeightlatticeModel", "acted", "([I)[I"⟩, 11), (⟨"WeightlatticeModel", "mirrored", "(I[I)[I"⟩, 11), (⟨"WeightlatticeModel", "isBelow", "([I[I)Z"⟩, 11), (⟨"WeightlatticeModel", "polynomials", "()[[[I"⟩, 11), (⟨"WeightlatticeModel", "elements", "()Ljava/util/List;"⟩, 11), (⟨"WeightlatticeModel", "fill", "([[[ILjava/util/List;II)V"⟩, 11), (⟨"WeightlatticeModel", "isPlace", "(II)Z"⟩, 11), (⟨"WeightlatticeModel", "isRegister", "(I)Z"⟩, 11)]
theorem lw_r5 : ∀ q ∈ lw_privs_5, lw_okq q := List.forall_mem_cons.mpr ⟨lw_p64, List.forall_mem_cons.mpr ⟨lw_p65, List.forall_mem_cons.mpr ⟨lw_p66, List.forall_mem_cons.mpr ⟨lw_p67, List.forall_mem_cons.mpr ⟨lw_p68, List.forall_mem_cons.mpr ⟨lw_p69, List.forall_mem_cons.mpr ⟨lw_p70, List.forall_mem_cons.mpr ⟨lw_p71, List.forall_mem_cons.mpr ⟨lw_p72, List.forall_mem_cons.mpr ⟨lw_p73, List.forall_mem_cons.mpr ⟨lw_p74, List.forall_mem_cons.mpr ⟨lw_p75, List.forall_mem_cons.mpr ⟨lw_p76, List.forall_mem_cons.mpr ⟨lw_p77, List.forall_mem_cons.mpr ⟨lw_p78, List.forall_mem_cons.mpr ⟨lw_p79, fun _ h => absurd h List.not_mem_nil⟩⟩⟩⟩⟩⟩⟩⟩⟩⟩⟩⟩⟩⟩⟩⟩
theorem lw_p80 : lw_okq (⟨"WeightlatticeModel", "isNoRegister", "([I)Z"⟩, 11) := ⟨⟨by decide +kernel, by decide +kernel⟩, List.mem_of_getElem? (i := 1211) (by decide +kernel), List.mem_of_getElem? (i := 2260) (by decide +kernel), List.mem_of_getElem? (i := 2261) (by decide +kernel)⟩
theorem lw_p81 : lw_okq (⟨"WeightlatticeModel", "lowest", "([II)I"⟩, 11) := ⟨⟨by decide +kernel, by decide +kernel⟩, List.mem_of_getElem? (i := 1211) (by decide +kernel), List.mem_of_getElem? (i := 2268) (by decide +kernel), List.mem_of_getElem? (i := 2269) (by decide +kernel)⟩
theorem lw_p82 : lw_okq (⟨"WeightlatticeModel", "plus", "([II[I)[I"⟩, 11) := ⟨⟨by decide +kernel, by decide +kernel⟩, List.mem_of_getElem? (i := 1211) (by decide +kernel), List.mem_of_getElem? (i := 2284) (by decide +kernel), List.mem_of_getElem? (i := 2285) (by decide +kernel)⟩
theorem lw_p83 : lw_okq (⟨"WeightlatticeModel", "coefficients", "([I)[I"⟩, 11) := ⟨⟨by decide +kernel, by decide +kernel⟩, List.mem_of_getElem? (i := 1211) (by decide +kernel), List.mem_of_getElem? (i := 2288) (by decide +kernel), List.mem_of_getElem? (i := 2289) (by decide +kernel)⟩
theorem lw_p84 : lw_okq (⟨"WeightlatticeModel", "isNotDominant", "([I)Z"⟩, 11) := ⟨⟨by decide +kernel, by decide +kernel⟩, List.mem_of_getElem? (i := 1211) (by decide +kernel), List.mem_of_getElem? (i := 2306) (by decide +kernel), List.mem_of_getElem? (i := 2307) (by decide +kernel)⟩
theorem lw_p85 : lw_okq (⟨"WeightlatticeModel", "dimensionOf", "([I)J"⟩, 11) := ⟨⟨by decide +kernel, by decide +kernel⟩, List.mem_of_getElem? (i := 1211) (by decide +kernel), List.mem_of_getElem? (i := 2310) (by decide +kernel), List.mem_of_getElem? (i := 2311) (by decide +kernel)⟩
theorem lw_p86 : lw_okq (⟨"WeightlatticeModel", "isTooLarge", "(I)Z"⟩, 11) := ⟨⟨by decide +kernel, by decide +kernel⟩, List.mem_of_getElem? (i := 1211) (by decide +kernel), List.mem_of_getElem? (i := 2321) (by decide +kernel), List.mem_of_getElem? (i := 2322) (by decide +kernel)⟩
theorem lw_p87 : lw_okq (⟨"WeightlatticeModel", "module", "([I)Ljava/util/List;"⟩, 11) := ⟨⟨by decide +kernel, by decide +kernel⟩, List.mem_of_getElem? (i := 1211) (by decide +kernel), List.mem_of_getElem? (i := 2326) (by decide +kernel), List.mem_of_getElem? (i := 2327) (by decide +kernel)⟩
theorem lw_p88 : lw_okq (⟨"WeightlatticeModel", "with", "([II)[I"⟩, 11) := ⟨⟨by decide +kernel, by decide +kernel⟩, List.mem_of_getElem? (i := 1211) (by decide +kernel), List.mem_of_getElem? (i := 2330) (by decide +kernel), List.mem_of_getElem? (i := 2331) (by decide +kernel)⟩
theorem lw_p89 : lw_okq (⟨"WeightlatticeModel", "multiplicity", "(Ljava/util/List;Ljava/util/List;[I[I)I"⟩, 11) := ⟨⟨by decide +kernel, by decide +kernel⟩, List.mem_of_getElem? (i := 1211) (by decide +kernel), List.mem_of_getElem? (i := 2339) (by decide +kernel), List.mem_of_getElem? (i := 2340) (by decide +kernel)⟩
theorem lw_p90 : lw_okq (⟨"WeightlatticeModel", "asWeight", "([I)[I"⟩, 11) := ⟨⟨by decide +kernel, by decide +kernel⟩, List.mem_of_getElem? (i := 1211) (by decide +kernel), List.mem_of_getElem? (i := 2343) (by decide +kernel), List.mem_of_getElem? (i := 2344) (by decide +kernel)⟩
theorem lw_p91 : lw_okq (⟨"WeightlatticeModel", "split", "(Ljava/util/List;[I[III)I"⟩, 11) := ⟨⟨by decide +kernel, by decide +kernel⟩, List.mem_of_getElem? (i := 1211) (by decide +kernel), List.mem_of_getElem? (i := 2356) (by decide +kernel), List.mem_of_getElem? (i := 2357) (by decide +kernel)⟩
theorem lw_p92 : lw_okq (⟨"WeightlatticeModel", "high", "(I)I"⟩, 11) := ⟨⟨by decide +kernel, by decide +kernel⟩, List.mem_of_getElem? (i := 1211) (by decide +kernel), List.mem_of_getElem? (i := 2371) (by decide +kernel), List.mem_of_getElem? (i := 2372) (by decide +kernel)⟩
theorem lw_p93 : lw_okq (⟨"WeightlatticeModel", "isPart", "(I)Z"⟩, 11) := ⟨⟨by decide +kernel, by decide +kernel⟩, List.mem_of_getElem? (i := 1211) (by decide +kernel), List.mem_of_getElem? (i := 2384) (by decide +kernel), List.mem_of_getElem? (i := 2385) (by decide +kernel)⟩
def lw_privs_6 : List (MethodName × Nat) := [(⟨"WeightlatticeModel", "isNoRegister", "([I)Z"⟩, 11), (⟨"WeightlatticeModel", "lowest", "([II)I"⟩, 11), (⟨"WeightlatticeModel", "plus", "([II[I)[I"⟩, 11), (⟨"WeightlatticeModel", "coefficients", "([I)[I"⟩, 11), (⟨"WeightlatticeModel", "isNotDominant", "([I)Z"⟩, 11), (⟨"WeightlatticeModel", "dimensionOf", "([I)J"⟩, 11), (⟨"WeightlatticeModel", "isTooLarge", "(I)Z"⟩, 11), (⟨"WeightlatticeModel", "module", "([I)Ljava/util/List;"⟩, 11), (⟨"WeightlatticeModel", "with", "([II)[I"⟩, 11), (⟨"WeightlatticeModel", "multiplicity", "(Ljava/util/List;Ljava/util/List;[I[I)I"⟩, 11), (⟨"WeightlatticeModel", "asWeight", "([I)[I"⟩, 11), (⟨"WeightlatticeModel", "split", "(Ljava/util/List;[I[III)I"⟩, 11), (⟨"WeightlatticeModel", "high", "(I)I"⟩, 11), (⟨"WeightlatticeModel", "isPart", "(I)Z"⟩, 11)]
theorem lw_r6 : ∀ q ∈ lw_privs_6, lw_okq q := List.forall_mem_cons.mpr ⟨lw_p80, List.forall_mem_cons.mpr ⟨lw_p81, List.forall_mem_cons.mpr ⟨lw_p82, List.forall_mem_cons.mpr ⟨lw_p83, List.forall_mem_cons.mpr ⟨lw_p84, List.forall_mem_cons.mpr ⟨lw_p85, List.forall_mem_cons.mpr ⟨lw_p86, List.forall_mem_cons.mpr ⟨lw_p87, List.forall_mem_cons.mpr ⟨lw_p88, List.forall_mem_cons.mpr ⟨lw_p89, List.forall_mem_cons.mpr ⟨lw_p90, List.forall_mem_cons.mpr ⟨lw_p91, List.forall_mem_cons.mpr ⟨lw_p92, List.forall_mem_cons.mpr ⟨lw_p93, fun _ h => absurd h List.not_mem_nil⟩⟩⟩⟩⟩⟩⟩⟩⟩⟩⟩⟩⟩⟩
def lw_privs : List (MethodName × Nat) := lw_privs_1 ++ (lw_privs_2 ++ (lw_privs_3 ++ (lw_privs_4 ++ (lw_privs_5 ++ (lw_privs_6)))))
def lw_tbl : List Cond := k2_sels lw_privs ++ tables_1
theorem lw_privs_ok : ∀ q ∈ lw_privs, lw_okq q := by
  show ∀ q ∈ lw_privs_1 ++ (lw_privs_2 ++ (lw_privs_3 ++ (lw_privs_4 ++ (lw_privs_5 ++ (lw_privs_6))))), lw_okq q
  exact List.forall_mem_append.mpr ⟨lw_r1, List.forall_mem_append.mpr ⟨lw_r2, List.forall_mem_append.mpr ⟨lw_r3, List.forall_mem_append.mpr ⟨lw_r4, List.forall_mem_append.mpr ⟨lw_r5, lw_r6⟩⟩⟩⟩⟩
/-- the streams that the claim lets the run draw from -/
abbrev lw_cs : List Choice := [Jvm.Choice.named "NaN.bits"]
theorem lw_bits : nanBits ∈ lw_cs := by first | decide | exact List.mem_cons_self | simp [lw_cs, nanBits]
-- ===== end of PART A; then your names; then what follows =====
end
section
/-! ===== BEGIN words of one list among another's, by their places ===== -/
theorem goodIn_r {big : List Cond} (ws : List Cond) (ps : List Nat) (hp : ws = ps.filterMap (fun i => big[i]?)) (h : ws.all goodWord = true) : GoodIn big ws := by
  intro w hw
  have h1 := List.all_eq_true.mp h w hw
  rw [hp] at hw
  obtain ⟨i, -, hi⟩ := List.mem_filterMap.mp hw
  have hm : w ∈ big := by first | exact List.mem_of_getElem? hi | exact List.getElem?_mem hi
  exact ⟨hm, good_of_word h1⟩
theorem goodIn_app {big a b : List Cond} (ha : GoodIn big a) (hb : GoodIn big b) : GoodIn big (a ++ b) := fun w h => (List.mem_append.mp h).elim (ha w) (hb w)
theorem goodIn_ca {big a b : List Cond} {c : Cond} (ha : GoodIn big (c :: a)) (hb : GoodIn big b) : GoodIn big (c :: (a ++ b)) := fun w h => (List.mem_cons.mp h).elim (fun e => ha w (List.mem_cons.mpr (Or.inl e))) (fun h => (List.mem_append.mp h).elim (fun h => ha w (List.mem_cons.mpr (Or.inr h))) (hb w))
theorem goodIn_sub {big ws : List Cond} (hm : ∀ w ∈ ws, w ∈ big) (h : ws.all goodWord = true) : GoodIn big ws := fun w hw => ⟨hm w hw, good_of_word (List.all_eq_true.mp h w hw)⟩
/-! ===== END ===== -/
/-! ===== BEGIN exceptions that leave a method, and their catching by the caller (launches without stack traces) ===== -/
section VXA
/-! The laws vx_back, vx_callV, vx_callS, vx_callSW, vx_throw0, vx_throwS follow proofs of the library, with one case more: JvmDerived/Free/Laws.lean (Back.of_free), Shelf42/LK1.lean (callV, callS), Shelf/KitTraced.lean (throwNew0V, throwNewS). -/
/-- where a method has thrown q: the class by its name, the cell, what was written, the world -/
def vx_T (XC : String → State → State → Prop) (st : State) (q : Addr) (t : State) (mc ms : Nat) (free : Addr → Prop) : Prop :=
  ∃ (E : String) (ce : Cell) (L : List Loc), XC E st t ∧ t.heap[q]? = some ce ∧ ce.vm = .none ∧ st.vm.findClass E = some ce.cls ∧ st.WarmedH t.vm ∧ st.sameButNew ({ t with vm := st.vm } : State) L mc ms ∧ ∀ z ∈ L, free z.base
def vx_Q (Qc : Array Value → State → Outcome → State → Prop) (XC : String → State → State → Prop) (mc ms : Nat) (free : Addr → Prop) : Array Value → State → Outcome → State → Prop := fun a st o t =>
  (Qc a st o t ∧ ∃ L, FrameEnd st o t L mc ms ∧ ∀ q ∈ L, free q.base) ∨ ∃ q, o = .threw q ∧ vx_T XC st q t mc ms free
/-- a callee that returns or throws -/
def vx_Met (l : Launch) (y : MethodName) (ws : List Cond) (rm : Room) (Pc : Array Value → State → Prop) (Qc : Array Value → State → Outcome → State → Prop) (XC : String → State → State → Prop) (mc ms : Nat) (free : Addr → Prop) : Prop :=
  MetFree l y (headSpec ws rm) Pc (fun _ _ _ _ _ => True) (vx_Q Qc XC mc ms free)
def vx_Post (XC : String → State → State → Prop) (mc ms : Nat) (free : Addr → Prop) : Pt → Array Value → Addr → Pt → Prop := fun A a q B =>
  ∃ (g : JFrame) (mk : MethodId) (t : State) (L : List Loc) (E : String) (ce : Cell), B.U.heap = t.heap ∧ B.U.vm = t.vm ∧ XC E (A.U.calling g mk a) t ∧ t.heap[q]? = some ce ∧ ce.vm = .none ∧ A.U.vm.findClass E = some ce.cls ∧ B.locs = A.locs ++ L ∧ (∀ z ∈ L, free z.base) ∧ B.cells = A.cells + mc ∧ B.slots = A.slots + ms
def vx_Back (l : Launch) (R : Room) (p : Program) (e : Env) (below : List Frame) (s : State) (sargs : Array Value) (y : MethodName) (len W9 : Nat)
    (Pre : Pt → Array Value → Prop) (Post : Pt → Array Value → Option Value → Pt → Prop) (PostX : Pt → Array Value → Addr → Pt → Prop) : Prop :=
  ∀ (m : MethodId) (meth : Method) (c : Code) (A : Pt) (g : JFrame) (ig : Instr) (mk : MethodId) (a : Array Value),
    Stand p l e R s m sargs below meth c A.U A.locs A.cells A.slots → g.method = m → g.locals.size = c.maxLocals → decode c.code g.pc = .ok (ig, len) →
    2 * g.monitorRoom + (g.stack.map fun v => v.category).sum ≤ W9 → A.U.methodNamed? y = some mk → Pre A a →
    (∃ (v : Option Value) (B : Pt), Stand p l e R s m sargs below meth c B.U B.locs B.cells B.slots ∧ Post A a v B ∧
      Steps p.tables e below (doInvoke e (A.U.setTop g) [] mk a).1 (B.U.setTop { g with pc := g.pc + len, stack := v.toList ++ g.stack })) ∨
    (∃ (q : Addr) (B : Pt), Stand p l e R s m sargs below meth c B.U B.locs B.cells B.slots ∧ PostX A a q B ∧
      Steps p.tables e below (doInvoke e (A.U.setTop g) [] mk a).1 ((B.U.setTop g).pushFrame (.throwing q)))
section Payer
variable {l : Launch} {R : Room} {p : Program} {e : Env} {below : List Frame} {s : State} {sargs : Array Value} {y : MethodName} {len W9 : Nat}
theorem vx_back {ws : List Cond} {rm : Room} {Pc : Array Value → State → Prop} {Qc : Array Value → State → Outcome → State → Prop} {XC : String → State → State → Prop} {mc ms : Nat} {free : Addr → Prop} {bytes : ByteArray} {maxL : Nat} {ret : Option FieldType}
    (hM : vx_Met l y ws rm Pc Qc XC mc ms free) (hblind : FrameBlind Pc) (hrc : rm.cells = mc) (hrs : rm.slots = ms)
    (hframes : rm.frames + 1 ≤ R.frames) (hlocals : W9 + (maxL + 11) + rm.locals ≤ R.locals)
    (hws : ∀ w ∈ ws, ∀ a' U, s.WarmedH U.vm → w.before a' U = true) (hcode : Cond.code y bytes maxL ret ∈ ws) (hinit : ∀ a' U, s.WarmedH U.vm → (Cond.initialized y.cls).before a' U = true) :
    vx_Back l R p e below s sargs y len W9 (PreOf R mc ms Pc) (PostOf Qc mc ms free) (vx_Post XC mc ms free) := by
  intro m meth c A g ig mk a X hg hsize hdg hW hn hp
  have h1 : (headSpec ws rm).pre.before a A.U = true := atoms_intro fun w hw => hws w hw _ _ X.warmed
  have h2 : (Cond.code y bytes maxL ret).before a A.U = true := hws _ hcode _ _ X.warmed
  have h3 : (Cond.initialized y.cls).before a A.U = true := hinit _ _ X.warmed
  have h4 : A.cells + (headSpec ws rm).room.cells ≤ R.cells := by rw [show (headSpec ws rm).room.cells = mc from hrc]; exact hp.1
  have h5 : A.slots + (headSpec ws rm).room.slots ≤ R.slots := by rw [show (headSpec ws rm).room.slots = ms from hrs]; exact hp.2.1
  have hPc : Pc a (A.U.calling g mk a) := hblind _ _ _ _ hp.2.2
  obtain ⟨U, Ls, c0, s0⟩ := A
  dsimp only [Pt.U, Pt.locs, Pt.cells, Pt.slots] at h1 h2 h3 h4 h5 X hn hPc ⊢
  obtain ⟨methY, cY, hmY, hcY, -, hlY, -, -, -, -⟩ := Cond.code_spec hn h2
  obtain ⟨kY, hkY, -⟩ := className_of_methodNamed hn
  have hinitY : kY.init = .initialized := Cond.initialized_spec (findClass_of_methodNamed hn) hkY h3
  have h : At U g.method c below := by rw [hg]; exact X.here
  have hlocals9 : W9 + (maxL + 11) + (headSpec ws rm).room.locals ≤ R.locals := hlocals
  have happ : (headSpec ws rm).appliesLoose y e.platform (U.calling g mk a) = true :=
    Spec.appliesLoose_calling (g := g) h hdg hn hkY hinitY
      (X.room_calling (g := g) (R' := (headSpec ws rm).room) hsize hmY hcY hframes (by rw [hlY]; omega) h4 h5) h1
  obtain ⟨mid, hmid⟩ := h.above
  have hfr : (U.setTop g).frames = (.java g :: mid) ++ below := by rw [State.frames_setTop' g h.top, hmid]; rfl
  obtain ⟨o, s₂, hsteps, -, hend, hq⟩ := Steps.callFree hM p X.admits X.cas X.clock (acts := []) hfr happ hPc trivial
  have hq' : vx_Q Qc XC mc ms free a (U.calling g mk a) o s₂ := hq
  rw [State.frames_setTop' g h.top] at hend
  obtain ⟨g₀, hg0⟩ := Option.isSome_iff_exists.mp h.top
  obtain ⟨r, hr⟩ := State.topJava?_eq_some.mp hg0
  have hr' : (({ U with heap := s₂.heap, slotsUsed := s₂.slotsUsed } : State).setVm s₂.vm).frames = .java g₀ :: r := hr
  rcases hq' with ⟨hqc, L, hfe, hL⟩ | ⟨q, rfl, E, ce, L, hx, hce, hcv, hcl, hW₂, hsm, hL⟩
  · obtain ⟨⟨v, rfl⟩, hW₂, e2, q2, q3, q4, q5, q6⟩ := id hfe
    have e3 : s₂ = ({ (U.calling g mk a).setFrames s₂.frames with heap := s₂.heap, slotsUsed := s₂.slotsUsed } : State).setVm s₂.vm := by
      have : s₂ = ({ s₂ with vm := (U.calling g mk a).vm } : State).setVm s₂.vm := rfl
      rw [e2] at this
      exact this
    obtain ⟨c₂, i₂, len₂, hc₂, hd₂, hf₂⟩ := hend
    have hW' : U.WarmedH s₂.vm := hW₂
    have hcc : c₂ = c := by
      have h1 : s₂.code? g.method = U.code? g.method := by
        rw [State.code?_eq, State.code?_eq, hW'.alike.method?]
      exact Option.some.inj (hc₂.symm.trans (h1.trans h.code))
    subst hcc
    have hlen : len₂ = len := by rw [hdg] at hd₂; cases hd₂; rfl
    subst hlen
    have hs₂ : s₂ = (({ U with heap := s₂.heap, slotsUsed := s₂.slotsUsed } : State).setVm s₂.vm).setTop { g with pc := g.pc + len₂, stack := v.toList ++ g.stack } := by
      refine e3.trans ?_
      rw [hf₂, State.calling_eq h.top, State.setFrames_setFrames, State.setTop_of_frames _ hr', hr]
      rfl
    have hsame : U.sameButNew ({ U with heap := s₂.heap, slotsUsed := s₂.slotsUsed } : State) L mc ms := by
      refine ⟨?_, q2, q3, q4, q5, q6⟩
      obtain ⟨t, ht, -⟩ := State.frames_cons hr
      show ({ U with heap := s₂.heap, slotsUsed := s₂.slotsUsed } : State) = { U.setFrames U.frames with heap := s₂.heap, slotsUsed := s₂.slotsUsed }
      rw [State.setFrames_self ht]
    subst hg
    refine Or.inl ⟨v, ⟨(({ U with heap := s₂.heap, slotsUsed := s₂.slotsUsed } : State).setVm s₂.vm), Ls ++ L, c0 + mc, s0 + ms⟩,
      ⟨X.admits, X.cas, X.clock, X.frames, X.room, X.hears, X.method, X.code, (X.here.setHeapUsed s₂.heap s₂.slotsUsed).setVm hW'.alike, X.tail, State.WarmedH.trans X.warmed hW', X.limits, X.bytes, X.same.trans (hsame.setVm s.vm)⟩,
      ⟨g, mk, s₂, L, rfl, rfl, hqc, rfl, hL, rfl, rfl⟩, ?_⟩
    show Steps p.tables e below _ ((({ U with heap := s₂.heap, slotsUsed := s₂.slotsUsed } : State).setVm s₂.vm).setTop { g with pc := g.pc + len₂, stack := v.toList ++ g.stack })
    rw [← hs₂]
    exact hsteps
  · obtain ⟨e2, q2, q3, q4, q5, q6⟩ := id hsm
    have e3 : s₂ = ({ (U.calling g mk a).setFrames s₂.frames with heap := s₂.heap, slotsUsed := s₂.slotsUsed } : State).setVm s₂.vm := by
      have : s₂ = ({ s₂ with vm := (U.calling g mk a).vm } : State).setVm s₂.vm := rfl
      rw [e2] at this
      exact this
    have hf₂ : s₂.frames = .throwing q :: .java g :: U.frames.tail := hend
    have hW' : U.WarmedH s₂.vm := hW₂
    have hs₂ : s₂ = ((({ U with heap := s₂.heap, slotsUsed := s₂.slotsUsed } : State).setVm s₂.vm).setTop g).pushFrame (.throwing q) := by
      refine e3.trans ?_
      rw [hf₂, State.calling_eq h.top, State.setFrames_setFrames, State.pushFrame, State.frames_setTop _ hr', State.setTop_of_frames _ hr', State.setFrames_setFrames, hr]
      rfl
    have hsame : U.sameButNew ({ U with heap := s₂.heap, slotsUsed := s₂.slotsUsed } : State) L mc ms := by
      refine ⟨?_, q2, q3, q4, q5, q6⟩
      obtain ⟨t, ht, -⟩ := State.frames_cons hr
      show ({ U with heap := s₂.heap, slotsUsed := s₂.slotsUsed } : State) = { U.setFrames U.frames with heap := s₂.heap, slotsUsed := s₂.slotsUsed }
      rw [State.setFrames_self ht]
    subst hg
    refine Or.inr ⟨q, ⟨(({ U with heap := s₂.heap, slotsUsed := s₂.slotsUsed } : State).setVm s₂.vm), Ls ++ L, c0 + mc, s0 + ms⟩,
      ⟨X.admits, X.cas, X.clock, X.frames, X.room, X.hears, X.method, X.code, (X.here.setHeapUsed s₂.heap s₂.slotsUsed).setVm hW'.alike, X.tail, State.WarmedH.trans X.warmed hW', X.limits, X.bytes, X.same.trans (hsame.setVm s.vm)⟩,
      ⟨g, mk, s₂, L, E, ce, rfl, rfl, hx, hce, hcv, hcl, rfl, hL, rfl, rfl⟩, ?_⟩
    show Steps p.tables e below _ (((({ U with heap := s₂.heap, slotsUsed := s₂.slotsUsed } : State).setVm s₂.vm).setTop g).pushFrame (.throwing q))
    rw [← hs₂]
    exact hsteps
end Payer
section Calls
variable {p : Program} {l : Launch} {e : Env} {R : Room} {s : State} {m : MethodId} {args : Array Value} {below : List Frame} {meth : Method} {c : Code} {T : State} {locs : List Loc} {cells slots : Nat}
theorem vx_callV (X : Stand p l e R s m args below meth c T locs cells slots) (hexec : p.tables.exec = Jvm.exec) {own C : String} {index : Nat} {y : MethodName} {bytes : ByteArray} {maxL : Nat} {ret : Option FieldType}
    (hown : s.vm.findClass own = some m.cls) (hlink : (Cond.methodLink own index y).before args s = true) (hinst : (Cond.instanceMethod y).before args s = true) (hsel : (Cond.selects C y y).before args s = true)
    (hcode : (Cond.code y bytes maxL ret).before args s = true) (hy : y.cls ≠ "java/lang/invoke/MethodHandle" ∧ y.cls ≠ "java/lang/invoke/VarHandle")
    {W9 : Nat} {Pre : Pt → Array Value → Prop} {Post : Pt → Array Value → Option Value → Pt → Prop} {PostX : Pt → Array Value → Addr → Pt → Prop} (hK : vx_Back l R p e below s args y 3 W9 Pre Post PostX)
    {b : Addr} {cellB : Cell} (hcell : T.heap[b]? = some cellB) (hobj : cellB.vm.isStatics = false) (hcls : s.vm.findClass C = some cellB.cls)
    {g : JFrame} (hg : g.method = m) (hsize : g.locals.size = c.maxLocals) {argsL rest : List Value} (hlen : ∀ sig, parseMethodDescriptor y.desc = some sig → argsL.length = sig.parameters.length)
    (hstack : g.stack = argsL.reverse ++ .ref b :: rest) (hW : 2 * g.monitorRoom + (rest.map fun v => v.category).sum ≤ W9) (hdg : decode c.code g.pc = .ok (.invokevirtual index, 3))
    (hpre : ∀ vm₁, s.WarmedH vm₁ → Pre ⟨T.setVm vm₁, locs, cells, slots⟩ (Value.ref b :: argsL).toArray) :
    (∃ (v : Option Value) (vm₁ : Vm) (B : Pt), s.WarmedH vm₁ ∧ Stand p l e R s m args below meth c B.U B.locs B.cells B.slots ∧ Post ⟨T.setVm vm₁, locs, cells, slots⟩ (Value.ref b :: argsL).toArray v B ∧
      ∀ target, Steps p.tables e below (B.U.setTop { g with pc := g.pc + 3, stack := v.toList ++ rest }) target → Steps p.tables e below (T.setTop g) target) ∨
    (∃ (q : Addr) (vm₁ : Vm) (B : Pt), s.WarmedH vm₁ ∧ Stand p l e R s m args below meth c B.U B.locs B.cells B.slots ∧ PostX ⟨T.setVm vm₁, locs, cells, slots⟩ (Value.ref b :: argsL).toArray q B ∧
      Steps p.tables e below (T.setTop g) ((B.U.setTop { g with stack := rest }).pushFrame (.throwing q))) := by
  obtain ⟨mk, methM, hnamed, hmethM, hstM, habM⟩ := Cond.instanceMethod_spec hinst
  obtain ⟨methM', cM, hmethM', -, -, -, -, -, -, hsigM⟩ := Cond.code_spec hnamed hcode
  cases hmethM.symm.trans hmethM'
  obtain ⟨c2, r2, m2, q1, q2, q3, q4, kP, hkP, hkPi⟩ := Cond.selects_spec hsel
  cases hcls.symm.trans q1
  cases (State.methodFound?_of_named hnamed hy).symm.trans q2
  cases hnamed.symm.trans q3
  have hselP : selectMethod e.platform s.vm cellB.cls mk = .method mk := by rw [Launch.admits_selectMethod X.admits]; exact q4
  obtain ⟨vm₁, X₁, hstep₁⟩ := X.invokevirtual hexec hown hlink hnamed hmethM hstM hkP hkPi hy (a := b) (cell := cellB) hcell
    (fun z h => by rw [h] at hobj; cases hobj) hselP hmethM habM hkP hkPi (g := g) hg (argsL := argsL) (rest := rest) (hlen _ hsigM) hstack hdg
  rcases hK m meth c ⟨T.setVm vm₁, locs, cells, slots⟩ { g with stack := rest } (.invokevirtual index) mk (Value.ref b :: argsL).toArray X₁ hg hsize hdg hW (X₁.named hnamed) (hpre vm₁ X₁.warmed) with ⟨v, B, X', hpost, hsteps⟩ | ⟨q, B, X', hpost, hsteps⟩
  · exact Or.inl ⟨v, vm₁, B, X₁.warmed, X', hpost, fun target h => hstep₁ _ fun acts => by rw [doInvoke_state]; exact hsteps.trans h⟩
  · exact Or.inr ⟨q, vm₁, B, X₁.warmed, X', hpost, hstep₁ _ fun acts => by rw [doInvoke_state]; exact hsteps⟩
theorem vx_callS (X : Stand p l e R s m args below meth c T locs cells slots) (hexec : p.tables.exec = Jvm.exec) {own : String} {index : Nat} {y : MethodName} {bytes : ByteArray} {maxL : Nat} {ret : Option FieldType}
    (hown : s.vm.findClass own = some m.cls) (hlink : (Cond.methodLink own index y).before args s = true) (hstat : (Cond.static y).before args s = true) (hinit : (Cond.initialized y.cls).before args s = true)
    (hcode : (Cond.code y bytes maxL ret).before args s = true) (hy : y.cls ≠ "java/lang/invoke/MethodHandle" ∧ y.cls ≠ "java/lang/invoke/VarHandle")
    {W9 : Nat} {Pre : Pt → Array Value → Prop} {Post : Pt → Array Value → Option Value → Pt → Prop} {PostX : Pt → Array Value → Addr → Pt → Prop} (hK : vx_Back l R p e below s args y 3 W9 Pre Post PostX)
    {g : JFrame} (hg : g.method = m) (hsize : g.locals.size = c.maxLocals) {argsL rest : List Value} (hlen : ∀ sig, parseMethodDescriptor y.desc = some sig → argsL.length = sig.parameters.length)
    (hstack : g.stack = argsL.reverse ++ rest) (hW : 2 * g.monitorRoom + (rest.map fun v => v.category).sum ≤ W9) (hdg : decode c.code g.pc = .ok (.invokestatic index, 3))
    (hpre : ∀ vm₁, s.WarmedH vm₁ → Pre ⟨T.setVm vm₁, locs, cells, slots⟩ argsL.toArray) :
    (∃ (v : Option Value) (vm₁ : Vm) (B : Pt), s.WarmedH vm₁ ∧ Stand p l e R s m args below meth c B.U B.locs B.cells B.slots ∧ Post ⟨T.setVm vm₁, locs, cells, slots⟩ argsL.toArray v B ∧
      ∀ target, Steps p.tables e below (B.U.setTop { g with pc := g.pc + 3, stack := v.toList ++ rest }) target → Steps p.tables e below (T.setTop g) target) ∨
    (∃ (q : Addr) (vm₁ : Vm) (B : Pt), s.WarmedH vm₁ ∧ Stand p l e R s m args below meth c B.U B.locs B.cells B.slots ∧ PostX ⟨T.setVm vm₁, locs, cells, slots⟩ argsL.toArray q B ∧
      Steps p.tables e below (T.setTop g) ((B.U.setTop { g with stack := rest }).pushFrame (.throwing q))) := by
  obtain ⟨mk, hnamed⟩ := Cond.code_named hcode
  obtain ⟨methM, cM, hmethM, -, -, -, -, -, -, hsigM⟩ := Cond.code_spec hnamed hcode
  have hstatic : methM.isStatic = true := Cond.static_spec hnamed hmethM hstat
  obtain ⟨kP, hkP, -⟩ := className_of_methodNamed hnamed
  have hinitP : kP.init = .initialized := Cond.initialized_spec (findClass_of_methodNamed hnamed) hkP hinit
  obtain ⟨vm₁, X₁, hstep₁⟩ := X.invokestatic hexec hown hlink hnamed hmethM hstatic hkP hinitP hy (g := g) hg (argsL := argsL) (rest := rest) (hlen _ hsigM) hstack hdg
  rcases hK m meth c ⟨T.setVm vm₁, locs, cells, slots⟩ { g with stack := rest } (.invokestatic index) mk argsL.toArray X₁ hg hsize hdg hW (X₁.named hnamed) (hpre vm₁ X₁.warmed) with ⟨v, B, X', hpost, hsteps⟩ | ⟨q, B, X', hpost, hsteps⟩
  · exact Or.inl ⟨v, vm₁, B, X₁.warmed, X', hpost, fun target h => hstep₁ _ fun acts => by rw [doInvoke_state]; exact hsteps.trans h⟩
  · exact Or.inr ⟨q, vm₁, B, X₁.warmed, X', hpost, hstep₁ _ fun acts => by rw [doInvoke_state]; exact hsteps⟩
end Calls
theorem vx_cls {s : State} {T : State} {vm₁ : Vm} {E : String} {k : ClassId} (hW : s.WarmedH vm₁) (h : (T.setVm vm₁).vm.findClass E = some k) : s.vm.findClass E = some k := by
  have h1 : vm₁.findClass E = some k := h
  rw [hW.alike.findClass] at h1
  exact h1
/-- the method's frame g, with q thrown over it -/
def vx_W (p : Program) (l : Launch) (e : Env) (R : Room) (s : State) (m : MethodId) (args : Array Value) (below : List Frame) (meth : Method) (c : Code) (H : Heap) (locs : List Loc) (cells slots : Nat) (Q : State → Prop) (g : JFrame) (q : Addr) : Prop :=
  ∀ T : State, T.heap = H → Stand p l e R s m args below meth c T locs cells slots → ∃ t, Steps p.tables e below ((T.setTop g).pushFrame (.throwing q)) t ∧ Q t
def vx_Run (p : Program) (l : Launch) (e : Env) (R : Room) (s : State) (m : MethodId) (args : Array Value) (below : List Frame) (meth : Method) (c : Code) (H : Heap) (locs : List Loc) (cells slots mc ms : Nat) (g : JFrame) (rest : List Value) (Qa : State → Outcome → State → Prop) (XC : String → State → State → Prop) (free : Addr → Prop) : Prop :=
  ∀ T : State, T.heap = H → Stand p l e R s m args below meth c T locs cells slots →
    (∃ (v : Option Value) (st₀ t T' : State) (L : List Loc), st₀.heap = H ∧ Stand p l e R s m args below meth c T' (locs ++ L) (cells + mc) (slots + ms) ∧ (∀ q ∈ L, free q.base) ∧ T'.heap = t.heap ∧ T'.vm = t.vm ∧ Qa st₀ (.returned v) t ∧
      Goes p e below T g T' { g with pc := g.pc + 3, stack := v.toList ++ rest }) ∨
    (∃ (q : Addr) (st₀ t T' : State) (L : List Loc) (E : String) (ce : Cell), st₀.heap = H ∧ Stand p l e R s m args below meth c T' (locs ++ L) (cells + mc) (slots + ms) ∧ (∀ z ∈ L, free z.base) ∧ T'.heap = t.heap ∧ T'.vm = t.vm ∧ XC E st₀ t ∧ t.heap[q]? = some ce ∧ ce.vm = .none ∧ s.vm.findClass E = some ce.cls ∧
      Steps p.tables e below (T.setTop g) ((T'.setTop { g with stack := rest }).pushFrame (.throwing q)))
def vx_X {S : Type} (px : S → Prop) (B : String → S → State → Prop) (A : Nat → Prop) : String → State → State → Prop := fun E st t => ∃ u : S, px u ∧ B E u t ∧ va_F A st t
section Runs
variable {p : Program} {l : Launch} {e : Env} {R : Room} {s : State} {m : MethodId} {args : Array Value} {below : List Frame} {meth : Method} {c : Code} {H : Heap} {locs : List Loc} {cells slots : Nat}
variable {y : MethodName} {bytes cc : ByteArray} {maxL nL mc ms n index : Nat} {ret : Option FieldType} {ws : List Cond} {rm : Room} {Pc : Array Value → State → Prop} {Qc : Array Value → State → Outcome → State → Prop} {XC : String → State → State → Prop} {free : Addr → Prop} {Ts : List Cond} {own C : String} {b : Addr} {As rest : List Value} {g : JFrame}
theorem vx_callBack (cb : CallB R s args own index y bytes maxL ret ws rm mc ms n) (hM : vx_Met l y ws rm Pc Qc XC mc ms free) (hbl : FrameBlind Pc) : vx_Back l R p e below s args y 3 8 (PreOf R mc ms Pc) (PostOf Qc mc ms free) (vx_Post XC mc ms free) := by
  obtain ⟨hrc, hrs, hfr, hlo, hws, hcw, -, hini, -⟩ := cb
  exact vx_back (bytes := bytes) (maxL := maxL) (ret := ret) hM hbl hrc hrs hfr hlo hws hcw (fun a' U hW => word_at hW (Or.inl (by first | rfl | simp [Cond.onTables, Cond.keeps, Cond.steady])) hini)
theorem vx_runV (S : CallFix p m c cc nL s args Ts own) (hM : vx_Met l y ws rm Pc Qc XC mc ms free) (cw : CallW R s args own C index y bytes maxL ret ws rm mc ms n) (hp : PreV s H C b Pc As)
    (hg : g.method = m) (hn : As.length = n) (hsize : g.locals.size = nL) (hstack : g.stack = As.reverse ++ .ref b :: rest) (hW : 2 * g.monitorRoom + (rest.map fun v => v.category).sum ≤ 8) (hdg : decode cc g.pc = .ok (.invokevirtual index, 3)) (hf : cells + mc ≤ R.cells ∧ slots + ms ≤ R.slots) :
    vx_Run p l e R s m args below meth c H locs cells slots mc ms g rest (Qc (Value.ref b :: As).toArray) XC free := by
  have hK : vx_Back l R p e below s args y 3 8 (PreOf R mc ms Pc) (PostOf Qc mc ms free) (vx_Post XC mc ms free) := vx_callBack cw.1 hM hp.1
  obtain ⟨⟨-, -, -, -, -, -, hcode, -, hy, hlen, hl⟩, hin, hse⟩ := cw
  obtain ⟨hx, hb, hml, ho, -⟩ := S
  obtain ⟨-, ⟨cellB, hcB, hoB, hclB⟩, hPc⟩ := hp
  intro T hT X
  rcases vx_callV X hx (C := C) (bytes := bytes) (maxL := maxL) (ret := ret) ho hl hin hse hcode hy hK (by rw [hT]; exact hcB) hoB hclB hg (hsize.trans hml.symm) (argsL := As) (rest := rest) (fun sig h => hn.trans (hlen sig h)) hstack hW (by rw [hb]; exact hdg)
    (fun vm₁ hW₁ => ⟨hf.1, hf.2, hPc (T.setVm vm₁) hT hW₁⟩) with ⟨v, vm₁, ⟨U', l2, c2, s2⟩, hW₁, X', ⟨g', mk, t, L, e1, e2, hq, h1, hL, h2, h3⟩, st⟩ | ⟨q, vm₁, ⟨U', l2, c2, s2⟩, hW₁, X', ⟨g', mk, t, L, E, ce, e1, e2, hq, hce, hcv, hcl, h1, hL, h2, h3⟩, st⟩
  · dsimp only [Pt.U, Pt.locs, Pt.cells, Pt.slots] at X' e1 e2 h1 h2 h3 st
    subst h1; subst h2; subst h3
    exact Or.inl ⟨v, (T.setVm vm₁).calling g' mk (Value.ref b :: As).toArray, t, U', L, hT, X', hL, e1, e2, hq, st⟩
  · dsimp only [Pt.U, Pt.locs, Pt.cells, Pt.slots] at X' e1 e2 h1 h2 h3 st hcl
    subst h1; subst h2; subst h3
    exact Or.inr ⟨q, (T.setVm vm₁).calling g' mk (Value.ref b :: As).toArray, t, U', L, E, ce, hT, X', hL, e1, e2, hq, hce, hcv, vx_cls hW₁ hcl, st⟩
theorem vx_runS (S : CallFix p m c cc nL s args Ts own) (hM : vx_Met l y ws rm Pc Qc XC mc ms free) (cw : CallB R s args own index y bytes maxL ret ws rm mc ms n ∧ (Cond.static y).before args s = true) (hp : PreS s H Pc As)
    (hg : g.method = m) (hn : As.length = n) (hsize : g.locals.size = nL) (hstack : g.stack = As.reverse ++ rest) (hW : 2 * g.monitorRoom + (rest.map fun v => v.category).sum ≤ 8) (hdg : decode cc g.pc = .ok (.invokestatic index, 3)) (hf : cells + mc ≤ R.cells ∧ slots + ms ≤ R.slots) :
    vx_Run p l e R s m args below meth c H locs cells slots mc ms g rest (Qc As.toArray) XC free := by
  have hK : vx_Back l R p e below s args y 3 8 (PreOf R mc ms Pc) (PostOf Qc mc ms free) (vx_Post XC mc ms free) := vx_callBack cw.1 hM hp.1
  obtain ⟨⟨-, -, -, -, -, -, hcode, hini, hy, hlen, hl⟩, hstt⟩ := cw
  obtain ⟨hx, hb, hml, ho, -⟩ := S
  intro T hT X
  rcases vx_callS X hx (bytes := bytes) (maxL := maxL) (ret := ret) ho hl hstt hini hcode hy hK hg (hsize.trans hml.symm) (argsL := As) (rest := rest) (fun sig h => hn.trans (hlen sig h)) hstack hW (by rw [hb]; exact hdg)
    (fun vm₁ hW₁ => ⟨hf.1, hf.2, hp.2 (T.setVm vm₁) hT hW₁⟩) with ⟨v, vm₁, ⟨U', l2, c2, s2⟩, hW₁, X', ⟨g', mk, t, L, e1, e2, hq, h1, hL, h2, h3⟩, st⟩ | ⟨q, vm₁, ⟨U', l2, c2, s2⟩, hW₁, X', ⟨g', mk, t, L, E, ce, e1, e2, hq, hce, hcv, hcl, h1, hL, h2, h3⟩, st⟩
  · dsimp only [Pt.U, Pt.locs, Pt.cells, Pt.slots] at X' e1 e2 h1 h2 h3 st
    subst h1; subst h2; subst h3
    exact Or.inl ⟨v, (T.setVm vm₁).calling g' mk As.toArray, t, U', L, hT, X', hL, e1, e2, hq, st⟩
  · dsimp only [Pt.U, Pt.locs, Pt.cells, Pt.slots] at X' e1 e2 h1 h2 h3 st hcl
    subst h1; subst h2; subst h3
    exact Or.inr ⟨q, (T.setVm vm₁).calling g' mk As.toArray, t, U', L, E, ce, hT, X', hL, e1, e2, hq, hce, hcv, vx_cls hW₁ hcl, st⟩
end Runs
section Rows
variable {p : Program} {l : Launch} {e : Env} {R : Room} {s : State} {m : MethodId} {args : Array Value} {below : List Frame} {meth : Method} {c : Code} {H : Heap} {locs : List Loc} {cells slots : Nat} {Q : State → Prop}
variable {mc ms : Nat} {free : Addr → Prop} {A0 A1 : Nat → Prop} {H0 : Heap} {a : Array Value} {pc : Nat} {ls : Array Slot} {st0 rest : List Value}
theorem vx_keep {st₀ t T' : State} {L : List Loc} (h0 : st₀.heap = H) (e1 : T'.heap = t.heap) (hS : va_S A0 H0 H locs) (hA : ∀ q, q < H.size → A1 q → A0 q) (hf : ∀ q, free q → A0 q) (hL : ∀ q ∈ L, free q.base) (hF : va_F A1 st₀ t) :
    H.size ≤ T'.heap.size ∧ (∀ q : Nat, q < H.size → ¬ A1 q → T'.heap[q]? = H[q]?) ∧ va_S A0 H0 T'.heap (locs ++ L) := by
  obtain ⟨hz, hk⟩ := hF
  rw [h0] at hz hk
  exact ⟨by rw [e1]; exact hz, fun q h1 h2 => by rw [e1]; exact hk q h1 h2,
    ⟨Nat.le_trans hS.1 (by rw [e1]; exact hz), fun q h1 h2 => by rw [e1, hk q (Nat.lt_of_lt_of_le h1 hS.1) (fun z => h2 (hA q (Nat.lt_of_lt_of_le h1 hS.1) z))]; exact hS.2.1 q h1 h2, fun q hq => by
      rcases List.mem_append.mp hq with h | h
      · exact hS.2.2 q h
      · exact hf _ (hL q h)⟩⟩
theorem vx_calli {S SX : Type} {post : Int32 → S → Prop} {px : SX → Prop} {B : S → State → Prop} {BX : String → SX → State → Prop} {AX : Nat → Prop} (hr : vx_Run p l e R s m args below meth c H locs cells slots mc ms (F0 m pc ls st0) rest (va_Qi post B A1 a) (vx_X px BX AX) free) (hS : va_S A0 H0 H locs) (hA : ∀ q, q < H.size → A1 q → A0 q) (hf : ∀ q, free q → A0 q) (hAX : ∀ q, q < H.size → AX q → A0 q)
    (kx : ∀ (E : String) (ce : Cell) (q9 : Addr) (u : SX) (t : State) (H1 : Heap) (locs1 : List Loc), t.heap = H1 → s.vm.Alike t.vm → px u → BX E u t → H.size ≤ H1.size → (∀ q : Nat, q < H.size → ¬ AX q → H1[q]? = H[q]?) → va_S A0 H0 H1 locs1 → H1[q9]? = some ce → ce.vm = .none → s.vm.findClass E = some ce.cls → vx_W p l e R s m args below meth c H1 locs1 (cells + mc) (slots + ms) Q (F0 m pc ls rest) q9)
    (kk : ∀ (r : Int32) (u : S) (t : State) (H1 : Heap) (locs1 : List Loc), t.heap = H1 → s.vm.Alike t.vm → post r u → B u t → H.size ≤ H1.size → (∀ q : Nat, q < H.size → ¬ A1 q → H1[q]? = H[q]?) → va_S A0 H0 H1 locs1 → W p l e R s m args below meth c H1 locs1 (cells + mc) (slots + ms) Q (F0 m (pc + 3) ls (.int r :: rest))) : W p l e R s m args below meth c H locs cells slots Q (F0 m pc ls st0) := by
  intro T hT X
  rcases hr T hT X with ⟨v, st₀, t, T', L, h0, X', hL, e1, e2, ⟨⟨r, u, hv, hp, hb⟩, hF⟩, st⟩ | ⟨q, st₀, t, T', L, E, ce, h0, X', hL, e1, e2, ⟨u, hp, hb, hF⟩, hce, hcv, hcl, st⟩
  · cases hv
    obtain ⟨k1, k2, k3⟩ := vx_keep h0 e1 hS hA hf hL hF
    obtain ⟨t2, a1, b1⟩ := kk r u t T'.heap (locs ++ L) e1.symm (by rw [← e2]; exact X'.warmed.alike) hp hb k1 k2 k3 T' rfl X'
    exact ⟨t2, st t2 a1, b1⟩
  · obtain ⟨k1, k2, k3⟩ := vx_keep h0 e1 hS hAX hf hL hF
    obtain ⟨t2, a1, b1⟩ := kx E ce q u t T'.heap (locs ++ L) e1.symm (by rw [← e2]; exact X'.warmed.alike) hp hb k1 k2 k3 (by rw [e1]; exact hce) hcv hcl T' rfl X'
    exact ⟨t2, st.trans a1, b1⟩
theorem vx_calll {S SX : Type} {post : Int64 → S → Prop} {px : SX → Prop} {B : S → State → Prop} {BX : String → SX → State → Prop} {AX : Nat → Prop} (hr : vx_Run p l e R s m args below meth c H locs cells slots mc ms (F0 m pc ls st0) rest (va_Ql post B A1 a) (vx_X px BX AX) free) (hS : va_S A0 H0 H locs) (hA : ∀ q, q < H.size → A1 q → A0 q) (hf : ∀ q, free q → A0 q) (hAX : ∀ q, q < H.size → AX q → A0 q)
    (kx : ∀ (E : String) (ce : Cell) (q9 : Addr) (u : SX) (t : State) (H1 : Heap) (locs1 : List Loc), t.heap = H1 → s.vm.Alike t.vm → px u → BX E u t → H.size ≤ H1.size → (∀ q : Nat, q < H.size → ¬ AX q → H1[q]? = H[q]?) → va_S A0 H0 H1 locs1 → H1[q9]? = some ce → ce.vm = .none → s.vm.findClass E = some ce.cls → vx_W p l e R s m args below meth c H1 locs1 (cells + mc) (slots + ms) Q (F0 m pc ls rest) q9)
    (kk : ∀ (r : Int64) (u : S) (t : State) (H1 : Heap) (locs1 : List Loc), t.heap = H1 → s.vm.Alike t.vm → post r u → B u t → H.size ≤ H1.size → (∀ q : Nat, q < H.size → ¬ A1 q → H1[q]? = H[q]?) → va_S A0 H0 H1 locs1 → W p l e R s m args below meth c H1 locs1 (cells + mc) (slots + ms) Q (F0 m (pc + 3) ls (.long r :: rest))) : W p l e R s m args below meth c H locs cells slots Q (F0 m pc ls st0) := by
  intro T hT X
  rcases hr T hT X with ⟨v, st₀, t, T', L, h0, X', hL, e1, e2, ⟨⟨r, u, hv, hp, hb⟩, hF⟩, st⟩ | ⟨q, st₀, t, T', L, E, ce, h0, X', hL, e1, e2, ⟨u, hp, hb, hF⟩, hce, hcv, hcl, st⟩
  · cases hv
    obtain ⟨k1, k2, k3⟩ := vx_keep h0 e1 hS hA hf hL hF
    obtain ⟨t2, a1, b1⟩ := kk r u t T'.heap (locs ++ L) e1.symm (by rw [← e2]; exact X'.warmed.alike) hp hb k1 k2 k3 T' rfl X'
    exact ⟨t2, st t2 a1, b1⟩
  · obtain ⟨k1, k2, k3⟩ := vx_keep h0 e1 hS hAX hf hL hF
    obtain ⟨t2, a1, b1⟩ := kx E ce q u t T'.heap (locs ++ L) e1.symm (by rw [← e2]; exact X'.warmed.alike) hp hb k1 k2 k3 (by rw [e1]; exact hce) hcv hcl T' rfl X'
    exact ⟨t2, st.trans a1, b1⟩
theorem vx_callf {S SX : Type} {post : UInt32 → S → Prop} {px : SX → Prop} {B : S → State → Prop} {BX : String → SX → State → Prop} {AX : Nat → Prop} (hr : vx_Run p l e R s m args below meth c H locs cells slots mc ms (F0 m pc ls st0) rest (va_Qf post B A1 a) (vx_X px BX AX) free) (hS : va_S A0 H0 H locs) (hA : ∀ q, q < H.size → A1 q → A0 q) (hf : ∀ q, free q → A0 q) (hAX : ∀ q, q < H.size → AX q → A0 q)
    (kx : ∀ (E : String) (ce : Cell) (q9 : Addr) (u : SX) (t : State) (H1 : Heap) (locs1 : List Loc), t.heap = H1 → s.vm.Alike t.vm → px u → BX E u t → H.size ≤ H1.size → (∀ q : Nat, q < H.size → ¬ AX q → H1[q]? = H[q]?) → va_S A0 H0 H1 locs1 → H1[q9]? = some ce → ce.vm = .none → s.vm.findClass E = some ce.cls → vx_W p l e R s m args below meth c H1 locs1 (cells + mc) (slots + ms) Q (F0 m pc ls rest) q9)
    (kk : ∀ (r : UInt32) (u : S) (t : State) (H1 : Heap) (locs1 : List Loc), t.heap = H1 → s.vm.Alike t.vm → post r u → B u t → H.size ≤ H1.size → (∀ q : Nat, q < H.size → ¬ A1 q → H1[q]? = H[q]?) → va_S A0 H0 H1 locs1 → W p l e R s m args below meth c H1 locs1 (cells + mc) (slots + ms) Q (F0 m (pc + 3) ls (.float r :: rest))) : W p l e R s m args below meth c H locs cells slots Q (F0 m pc ls st0) := by
  intro T hT X
  rcases hr T hT X with ⟨v, st₀, t, T', L, h0, X', hL, e1, e2, ⟨⟨r, u, hv, hp, hb⟩, hF⟩, st⟩ | ⟨q, st₀, t, T', L, E, ce, h0, X', hL, e1, e2, ⟨u, hp, hb, hF⟩, hce, hcv, hcl, st⟩
  · cases hv
    obtain ⟨k1, k2, k3⟩ := vx_keep h0 e1 hS hA hf hL hF
    obtain ⟨t2, a1, b1⟩ := kk r u t T'.heap (locs ++ L) e1.symm (by rw [← e2]; exact X'.warmed.alike) hp hb k1 k2 k3 T' rfl X'
    exact ⟨t2, st t2 a1, b1⟩
  · obtain ⟨k1, k2, k3⟩ := vx_keep h0 e1 hS hAX hf hL hF
    obtain ⟨t2, a1, b1⟩ := kx E ce q u t T'.heap (locs ++ L) e1.symm (by rw [← e2]; exact X'.warmed.alike) hp hb k1 k2 k3 (by rw [e1]; exact hce) hcv hcl T' rfl X'
    exact ⟨t2, st.trans a1, b1⟩
theorem vx_calld {S SX : Type} {post : UInt64 → S → Prop} {px : SX → Prop} {B : S → State → Prop} {BX : String → SX → State → Prop} {AX : Nat → Prop} (hr : vx_Run p l e R s m args below meth c H locs cells slots mc ms (F0 m pc ls st0) rest (va_Qd post B A1 a) (vx_X px BX AX) free) (hS : va_S A0 H0 H locs) (hA : ∀ q, q < H.size → A1 q → A0 q) (hf : ∀ q, free q → A0 q) (hAX : ∀ q, q < H.size → AX q → A0 q)
    (kx : ∀ (E : String) (ce : Cell) (q9 : Addr) (u : SX) (t : State) (H1 : Heap) (locs1 : List Loc), t.heap = H1 → s.vm.Alike t.vm → px u → BX E u t → H.size ≤ H1.size → (∀ q : Nat, q < H.size → ¬ AX q → H1[q]? = H[q]?) → va_S A0 H0 H1 locs1 → H1[q9]? = some ce → ce.vm = .none → s.vm.findClass E = some ce.cls → vx_W p l e R s m args below meth c H1 locs1 (cells + mc) (slots + ms) Q (F0 m pc ls rest) q9)
    (kk : ∀ (r : UInt64) (u : S) (t : State) (H1 : Heap) (locs1 : List Loc), t.heap = H1 → s.vm.Alike t.vm → post r u → B u t → H.size ≤ H1.size → (∀ q : Nat, q < H.size → ¬ A1 q → H1[q]? = H[q]?) → va_S A0 H0 H1 locs1 → W p l e R s m args below meth c H1 locs1 (cells + mc) (slots + ms) Q (F0 m (pc + 3) ls (.double r :: rest))) : W p l e R s m args below meth c H locs cells slots Q (F0 m pc ls st0) := by
  intro T hT X
  rcases hr T hT X with ⟨v, st₀, t, T', L, h0, X', hL, e1, e2, ⟨⟨r, u, hv, hp, hb⟩, hF⟩, st⟩ | ⟨q, st₀, t, T', L, E, ce, h0, X', hL, e1, e2, ⟨u, hp, hb, hF⟩, hce, hcv, hcl, st⟩
  · cases hv
    obtain ⟨k1, k2, k3⟩ := vx_keep h0 e1 hS hA hf hL hF
    obtain ⟨t2, a1, b1⟩ := kk r u t T'.heap (locs ++ L) e1.symm (by rw [← e2]; exact X'.warmed.alike) hp hb k1 k2 k3 T' rfl X'
    exact ⟨t2, st t2 a1, b1⟩
  · obtain ⟨k1, k2, k3⟩ := vx_keep h0 e1 hS hAX hf hL hF
    obtain ⟨t2, a1, b1⟩ := kx E ce q u t T'.heap (locs ++ L) e1.symm (by rw [← e2]; exact X'.warmed.alike) hp hb k1 k2 k3 (by rw [e1]; exact hce) hcv hcl T' rfl X'
    exact ⟨t2, st.trans a1, b1⟩
theorem vx_callv {S SX : Type} {post : S → Prop} {px : SX → Prop} {B : S → State → Prop} {BX : String → SX → State → Prop} {AX : Nat → Prop} (hr : vx_Run p l e R s m args below meth c H locs cells slots mc ms (F0 m pc ls st0) rest (va_Qv post B A1 a) (vx_X px BX AX) free) (hS : va_S A0 H0 H locs) (hA : ∀ q, q < H.size → A1 q → A0 q) (hf : ∀ q, free q → A0 q) (hAX : ∀ q, q < H.size → AX q → A0 q)
    (kx : ∀ (E : String) (ce : Cell) (q9 : Addr) (u : SX) (t : State) (H1 : Heap) (locs1 : List Loc), t.heap = H1 → s.vm.Alike t.vm → px u → BX E u t → H.size ≤ H1.size → (∀ q : Nat, q < H.size → ¬ AX q → H1[q]? = H[q]?) → va_S A0 H0 H1 locs1 → H1[q9]? = some ce → ce.vm = .none → s.vm.findClass E = some ce.cls → vx_W p l e R s m args below meth c H1 locs1 (cells + mc) (slots + ms) Q (F0 m pc ls rest) q9)
    (kk : ∀ (u : S) (t : State) (H1 : Heap) (locs1 : List Loc), t.heap = H1 → s.vm.Alike t.vm → post u → B u t → H.size ≤ H1.size → (∀ q : Nat, q < H.size → ¬ A1 q → H1[q]? = H[q]?) → va_S A0 H0 H1 locs1 → W p l e R s m args below meth c H1 locs1 (cells + mc) (slots + ms) Q (F0 m (pc + 3) ls (rest))) : W p l e R s m args below meth c H locs cells slots Q (F0 m pc ls st0) := by
  intro T hT X
  rcases hr T hT X with ⟨v, st₀, t, T', L, h0, X', hL, e1, e2, ⟨⟨u, hv, hp, hb⟩, hF⟩, st⟩ | ⟨q, st₀, t, T', L, E, ce, h0, X', hL, e1, e2, ⟨u, hp, hb, hF⟩, hce, hcv, hcl, st⟩
  · cases hv
    obtain ⟨k1, k2, k3⟩ := vx_keep h0 e1 hS hA hf hL hF
    obtain ⟨t2, a1, b1⟩ := kk u t T'.heap (locs ++ L) e1.symm (by rw [← e2]; exact X'.warmed.alike) hp hb k1 k2 k3 T' rfl X'
    exact ⟨t2, st t2 a1, b1⟩
  · obtain ⟨k1, k2, k3⟩ := vx_keep h0 e1 hS hAX hf hL hF
    obtain ⟨t2, a1, b1⟩ := kx E ce q u t T'.heap (locs ++ L) e1.symm (by rw [← e2]; exact X'.warmed.alike) hp hb k1 k2 k3 (by rw [e1]; exact hce) hcv hcl T' rfl X'
    exact ⟨t2, st.trans a1, b1⟩
/-- caught by the row x of this method's table; the rows ahead don't take it -/
theorem vx_catch {own name : String} {E : String} {ce : Cell} {q : Addr} (hown : s.vm.findClass own = some m.cls) (pre : List ExceptionTableEntry) (x : ExceptionTableEntry) (suf : List ExceptionTableEntry) (hsplit : c.exceptionTable.toList = pre ++ x :: suf)
    (hpass : ∀ z ∈ pre, covers z pc = false ∨ (z.catchType ≠ 0 ∧ ∃ nm : String, (Cond.classLink own z.catchType nm).before args s = true ∧ va_Nc E nm s)) (hx : covers x pc = true) (h0 : x.catchType ≠ 0)
    (hlink : (Cond.classLink own x.catchType name).before args s = true) (hcast : (Cond.castable E name).before args s = true) (hcell : H[q]? = some ce) (hv : ce.vm = .none) (hcl : s.vm.findClass E = some ce.cls)
    (kk : W p l e R s m args below meth c H locs cells slots Q (F0 m x.handlerPc ls [.ref q])) : vx_W p l e R s m args below meth c H locs cells slots Q (F0 m pc ls rest) q := by
  intro T hT X
  have hpl : e.platform.magicAccessors = ({} : Platform).magicAccessors := by rw [X.admits.platform]
  obtain ⟨c3, c4, hc3, hc4, hasg⟩ := Cond.castable_spec hcast
  cases Option.some.inj (hc3.symm.trans hcl)
  obtain ⟨c5, hc5, hcl5⟩ := Cond.classLink_spec hown hlink e.platform hpl
  cases Option.some.inj (hc4.symm.trans hc5)
  obtain ⟨vm', X', st⟩ := X.thenCaughtThrough q (g := F0 m pc ls rest) rfl (Steps.refl _) (by rw [hT]; exact hcell) (by rw [hv]; rfl) (by obtain ⟨k9, h9, -⟩ := Vm.findClass_spec hcl; exact ⟨k9, h9⟩) pre x suf hsplit
    (fun z hz => by
      rcases hpass z hz with h | ⟨hz0, nm, hl1, hn1⟩
      · exact Or.inl h
      · obtain ⟨c6, hc6, hcl6⟩ := Cond.classLink_spec hown hl1 e.platform hpl
        obtain ⟨a8, b8, h1, h2, h3⟩ := hn1
        cases Option.some.inj (h1.symm.trans hcl)
        cases Option.some.inj (h2.symm.trans hc6)
        exact Or.inr ⟨hz0, _, hcl6, h3⟩) hx (Or.inr ⟨h0, c4, hcl5, hasg⟩)
  obtain ⟨t, a1, b1⟩ := kk (T.setVm vm') hT X'
  exact ⟨t, st.trans a1, b1⟩
end Rows
section Ends
variable {p : Program} {l : Launch} {e : Env} {R : Room} {s : State} {m : MethodId} {args : Array Value} {below : List Frame} {meth : Method} {c : Code} {H : Heap} {locs : List Loc} {cells slots : Nat} {Q : State → Prop}
variable {mc ms : Nat} {free : Addr → Prop} {A0 A1 : Nat → Prop} {H0 : Heap} {a : Array Value} {ls : Array Slot} {st0 rest : List Value}
variable {Qc : Array Value → State → Outcome → State → Prop} {XC : String → State → State → Prop}
/-- what a body that may throw owes at its end -/
def vx_MQ (below : List Frame) (Qc : Array Value → State → Outcome → State → Prop) (XC : String → State → State → Prop) (a : Array Value) (s : State) (mc ms : Nat) (free : Addr → Prop) : State → Prop := fun t =>
  ∃ o, t.status = .running ∧ Ended t below o ∧ vx_Q Qc XC mc ms free a s o t
theorem vx_ret {g : JFrame} {mc ms : Nat} (k : W p l e R s m args below meth c H locs cells slots (MQ below Qc args s mc ms free) g) : W p l e R s m args below meth c H locs cells slots (vx_MQ below Qc XC args s mc ms free) g := by
  intro T hT X
  obtain ⟨t, a1, o, b1, b2, b3, b4⟩ := k T hT X
  exact ⟨t, a1, o, b1, b2, Or.inl ⟨b3, b4⟩⟩
/-- not caught here: it goes on to the caller -/
theorem vx_widen {g : JFrame} {q : Addr} {k n : Nat} (h1 : cells ≤ k) (h2 : slots ≤ n) (kk : vx_W p l e R s m args below meth c H locs k n Q g q) : vx_W p l e R s m args below meth c H locs cells slots Q g q := fun T hT X => kk T hT (stand_widen X h1 h2)
theorem vx_out {pc : Nat} {E : String} {ce : Cell} {q : Addr} {mc ms : Nat} (hout : ∀ x ∈ c.exceptionTable.toList, covers x pc = false) (hlocks : meth.locks = false) (hcell : H[q]? = some ce) (hv : ce.vm = .none) (hcl : s.vm.findClass E = some ce.cls)
    (hx : ∀ t : State, t.heap = H → s.vm.Alike t.vm → XC E s t) (hf : ∀ z ∈ locs, free z.base) (hc : cells ≤ mc) (hs : slots ≤ ms) :
    vx_W p l e R s m args below meth c H locs cells slots (vx_MQ below Qc XC args s mc ms free) (F0 m pc ls rest) q := by
  intro T hT X
  obtain ⟨st1, hrun, hend, hW, hsm⟩ := X.leaveThrown q (g := F0 m pc ls rest) rfl rfl rfl hout hlocks
  have hcell9 : (T.setFrames (.throwing q :: below)).heap[q]? = some ce := by
    show T.heap[q]? = some ce
    rw [hT]; exact hcell
  exact ⟨_, st1, .threw q, hrun, hend, Or.inr ⟨q, rfl, E, ce, locs, hx _ hT hW.alike, hcell9, hv, hcl, hW, hsm.mono hc hs, hf⟩⟩
theorem vx_frame {U : State} {k n : Nat} (h : s.sameButNew ({ U with vm := s.vm } : State) locs k n) : s.heap.size ≤ U.heap.size ∧ ∀ q : Nat, q < s.heap.size → (∀ z ∈ locs, z.base ≠ q) → U.heap[q]? = s.heap[q]? := by
  obtain ⟨-, h2, -, -, -, h6⟩ := h
  refine ⟨h2, fun q hq hz => ?_⟩
  obtain ⟨c9, e1, e2, e3, e4⟩ := h6 q _ (Array.getElem?_eq_getElem hq)
  have hs : c9.slots = (s.heap[q]).slots := Array.ext_getElem? fun i => e4 i fun hm => hz _ hm rfl
  have h9 : c9 = s.heap[q] := by
    rw [hs] at e2
    exact e2
  have e5 : U.heap[q]? = some c9 := e1
  rw [e5, h9, Array.getElem?_eq_getElem hq]
/-- the words of a throw but the four that speak of the heap -/
def vx_no (w : Cond) : Bool := decide (w ≠ .isRef (.static Bundle.tN "UNASSIGNED_STACK" Bundle.steD)) && decide (w ≠ .isRef (.static Bundle.tN "SUPPRESSED_SENTINEL" Bundle.listD)) && decide (w ≠ .laysStatic Bundle.tN "UNASSIGNED_STACK" Bundle.steD) && decide (w ≠ .laysStatic Bundle.tN "SUPPRESSED_SENTINEL" Bundle.listD)
def vx_at0 (own : String) (ic : Nat) (X : String) (names : List String) : List Cond := (Bundle.ownAtoms0 own ic X names).filter vx_no
def vx_atS (own : String) (ic : Nat) (X : String) (names : List String) : List Cond := (Bundle.ownAtoms own ic X names).filter vx_no
/-- a word that the tables alone decide, or a good one -/
def vx_ot (w : Cond) : Bool := w.onTables || goodWord w
theorem vx_ot_at {args a' : Array Value} {s U : State} {w : Cond} (hW : s.WarmedH U.vm) (hvm : s.vm = U.vm) (hg : vx_ot w = true) (h : w.before args s = true) : w.before a' U = true := by
  simp only [vx_ot, Bool.or_eq_true] at hg
  rcases hg with hg | hg
  · exact va_tabs hg hvm h
  · exact word_at hW (good_of_word hg) h
/-- a list's words: the good ones out of the method's own list, the others by premises of their own -/
theorem vx_hat {args : Array Value} {s : State} {L B : List Cond} (h1 : ∀ w ∈ L.filter goodWord, w.before args s = true) (h2 : ∀ w ∈ L.filter (fun w => !goodWord w), w ∈ B) (h3 : ∀ w ∈ B, w.before args s = true) : ∀ w ∈ L, w.before args s = true := by
  intro w hw
  by_cases g : goodWord w = true
  · exact h1 w (List.mem_filter.mpr ⟨hw, g⟩)
  · refine h3 w (h2 w (List.mem_filter.mpr ⟨hw, ?_⟩))
    show (!goodWord w) = true
    cases hgw : goodWord w
    · rfl
    · exact absurd hgw g
theorem vx_c {args : Array Value} {s : State} {w : Cond} {B : List Cond} (h : w.before args s = true) (t : ∀ w ∈ B, w.before args s = true) : ∀ w' ∈ w :: B, w'.before args s = true := fun w' h' => (List.mem_cons.mp h').elim (fun e => by rw [e]; exact h) (t w')
theorem vx_n {args : Array Value} {s : State} : ∀ w ∈ ([] : List Cond), w.before args s = true := fun _ h => nomatch h
theorem vx_own {args : Array Value} {s : State} {L : List Cond} (h1 : ∀ w ∈ L.filter vx_no, w.before args s = true)
    (hU : (Cond.isRef (.static Bundle.tN "UNASSIGNED_STACK" Bundle.steD)).before args s = true) (hN : (Cond.isRef (.static Bundle.tN "SUPPRESSED_SENTINEL" Bundle.listD)).before args s = true)
    (lU : (Cond.laysStatic Bundle.tN "UNASSIGNED_STACK" Bundle.steD).before args s = true) (lN : (Cond.laysStatic Bundle.tN "SUPPRESSED_SENTINEL" Bundle.listD).before args s = true) : ∀ w ∈ L, w.before args s = true := by
  intro w hw
  by_cases e1 : w = .isRef (.static Bundle.tN "UNASSIGNED_STACK" Bundle.steD)
  · rw [e1]; exact hU
  · by_cases e2 : w = .isRef (.static Bundle.tN "SUPPRESSED_SENTINEL" Bundle.listD)
    · rw [e2]; exact hN
    · by_cases e3 : w = .laysStatic Bundle.tN "UNASSIGNED_STACK" Bundle.steD
      · rw [e3]; exact lU
      · by_cases e4 : w = .laysStatic Bundle.tN "SUPPRESSED_SENTINEL" Bundle.listD
        · rw [e4]; exact lN
        · exact h1 w (List.mem_filter.mpr ⟨hw, by unfold vx_no; rw [decide_eq_true e1, decide_eq_true e2, decide_eq_true e3, decide_eq_true e4]; rfl⟩)
/-- where a static field lies, its class's statics cell in H -/
def vx_L (C n d : String) (A : Nat → Prop) (U : State) (H : Heap) : Prop := ∃ (c : ClassId) (k : Class) (i : Nat) (f : Field) (a : Nat) (cell : Cell), U.vm.findClass C = some c ∧ U.fieldFound? C n d = some (c, k, i, f) ∧ f.isStatic = true ∧ k.statics = some a ∧ H[a]? = some cell ∧ cell.vm.isStatics = true ∧ cell.cls = c ∧ f.slot < cell.slots.size ∧ k.staticTypes[f.slot]? = some f.type ∧ ¬ A a
theorem vx_L.moved {C n d : String} {A : Nat → Prop} {u U : State} {H : Heap} (hvm : u.vm.Alike U.vm) (h : vx_L C n d A u H) : vx_L C n d A U H := by
  obtain ⟨c, k, i, f, a, cell, h1, h2, h3, h4, h5, h6, h7, h8, h9, h10⟩ := h
  obtain ⟨k', hi', he⟩ := State.fieldFound?_setVm hvm h2
  exact ⟨c, k', i, f, a, cell, by rw [hvm.findClass]; exact h1, hi', h3, by rw [he]; exact h4, h5, h6, h7, h8, by rw [he]; exact h9, h10⟩
theorem vx_L.kept {C n d : String} {A : Nat → Prop} {U : State} {H H1 : Heap} (h : vx_L C n d A U H) (hq : ∀ a : Nat, a < H.size → ¬ A a → H1[a]? = H[a]?) : vx_L C n d A U H1 := by
  obtain ⟨c, k, i, f, a, cell, h1, h2, h3, h4, h5, h6, h7, h8, h9, h10⟩ := h
  exact ⟨c, k, i, f, a, cell, h1, h2, h3, h4, by rw [hq a (Array.getElem?_eq_some_iff.mp h5).1 h10]; exact h5, h6, h7, h8, h9, h10⟩
theorem vx_L.narrow {C n d : String} {A B : Nat → Prop} {U : State} {H : Heap} (h : vx_L C n d A U H) (hAB : ∀ q, B q → A q) : vx_L C n d B U H := by
  obtain ⟨c, k, i, f, a, cell, h1, h2, h3, h4, h5, h6, h7, h8, h9, h10⟩ := h
  exact ⟨c, k, i, f, a, cell, h1, h2, h3, h4, h5, h6, h7, h8, h9, fun z => h10 (hAB _ z)⟩
theorem vx_L.word {C n d : String} {A : Nat → Prop} {s : State} {args : Array Value} (h : vx_L C n d A s s.heap) : (Cond.laysStatic C n d).before args s = true := by
  obtain ⟨c, k, i, f, a, cell, h1, h2, h3, h4, h5, h6, h7, h8, h9, -⟩ := h
  show (Cond.laysStatic C n d).holds args s none s [] = true
  exact Cond.laysStatic_of h1 h2 h3 h4 h5 h6 h7 h8 h9
/-- .. and what it holds: null or some reference -/
def vx_Zq (C n d : String) (A : Nat → Prop) (U : State) (H : Heap) : Prop := va_Zq C n d A U H ∧ vx_L C n d A U H
theorem vx_Zq.moved {C n d : String} {A : Nat → Prop} {u U : State} {H : Heap} (hvm : u.vm.Alike U.vm) (h : vx_Zq C n d A u H) : vx_Zq C n d A U H := ⟨va_Zq.moved hvm h.1, vx_L.moved hvm h.2⟩
theorem vx_Zq.kept {C n d : String} {A : Nat → Prop} {U : State} {H H1 : Heap} (h : vx_Zq C n d A U H) (hq : ∀ a : Nat, a < H.size → ¬ A a → H1[a]? = H[a]?) : vx_Zq C n d A U H1 := ⟨va_Zq.kept h.1 hq, vx_L.kept h.2 hq⟩
theorem vx_Zq.narrow {C n d : String} {A B : Nat → Prop} {U : State} {H : Heap} (h : vx_Zq C n d A U H) (hAB : ∀ q, B q → A q) : vx_Zq C n d B U H := ⟨va_Zq.narrow h.1 hAB, vx_L.narrow h.2 hAB⟩
theorem vx_Zqof {args : Array Value} {s : State} {C n d : String} {A : Nat → Prop} (hl : (Cond.laysStatic C n d).before args s = true) (hini : (Cond.initialized C).before args s = true) (h : (Cond.isRef (.static C n d)).before args s = true) (hA : ∀ a : Nat, a < s.heap.size → ¬ A a) : vx_Zq C n d A s s.heap := by
  refine ⟨va_Zqof hl hini h hA, ?_⟩
  obtain ⟨c, k, i, f, a, cell, h1, h2, h3, h4, h5, h6, h7, h8, h9⟩ := Cond.laysStatic_spec hl
  exact ⟨c, k, i, f, a, cell, h1, h2, h3, h4, h5, h6, h7, h8, h9, hA a (Array.getElem?_eq_some_iff.mp h5).1⟩
theorem vx_isRef {C n d : String} {v : Value} {A : Nat → Prop} {s : State} {args : Array Value} (h : va_Z C n d v A s s.heap) (hv : v.isRef = true) : (Cond.isRef (.static C n d)).before args s = true := by
  obtain ⟨cf, kf, fi, f, a, cell, h1, h2, h3, h4, h5, h6, h7, -⟩ := h
  have he : (Term.static C n d).eval args s none [] s = some v := by
    simp [Term.eval, State.fieldNamed?, h1, h2, h4, h5, h6, h7]
  simp only [Cond.before, Cond.holds, Cond.value, he]
  cases v <;> simp_all [Value.isRef]
theorem vx_isRefq {C n d : String} {A : Nat → Prop} {s : State} {args : Array Value} (h : va_Zq C n d A s s.heap) : (Cond.isRef (.static C n d)).before args s = true := by
  rcases h with h | ⟨t, h⟩
  · exact vx_isRef h rfl
  · exact vx_isRef h rfl
/-- the same frame, seen from here: as if the method were called anew in this heap -/
theorem vx_rebase {T : State} (X : Stand p l e R s m args below meth c T locs cells slots) {R' : Room} (hf : R'.frames ≤ R.frames) (hl : R'.locals ≤ R.locals) (hc : cells + R'.cells ≤ R.cells) (hs : slots + R'.slots ≤ R.slots) :
    Stand p l e R' ((T.setVm s.vm).setFrames (.invoking m args :: below)) m args below meth c T [] 0 0 := by
  have htop : (T.setVm s.vm).topJava?.isSome := X.here.top
  have hF : ((T.setVm s.vm).setFrames (.invoking m args :: below)).frames = .invoking m args :: below := State.frames_setFrames _ (State.cur_lt_of_top htop)
  obtain ⟨g₀, hg0⟩ := Option.isSome_iff_exists.mp htop
  obtain ⟨r, hr⟩ := State.topJava?_eq_some.mp hg0
  have hl9 : e.platform.stackLimits (T.setVm s.vm).me = e.platform.stackLimits s.me := X.limits
  have hb9 : (T.setVm s.vm).me.stackBytes = s.me.stackBytes := X.bytes
  refine ⟨X.admits, X.cas, X.clock, hF, ?_, X.hears, X.method, X.code, X.here, X.tail, X.warmed, ?_, ?_, ?_⟩
  · have h := X.room
    have hU : ((T.setVm s.vm).setFrames (.invoking m args :: below)).localsInUse = s.localsInUse := by
      rw [State.localsInUse_invoking hF (meth := meth) (c := c) X.method X.code, State.localsInUse_invoking X.frames X.method X.code]
    simp only [State.hasRoom, Bool.and_eq_true, decide_eq_true_eq] at h ⊢
    obtain ⟨⟨⟨⟨h1, h2, h3, h4, h5, h6⟩, h7⟩, h8⟩, h9⟩ := h
    rw [X.frames, List.length_cons] at h2 h3
    have q1 := X.heapSize
    have q2 := X.used
    simp only [hF, hU, List.length_cons, State.stackLimits_setFrames, State.stackBytes_setFrames, hl9, hb9]
    refine ⟨⟨⟨⟨by omega, by omega, by omega, by omega, by omega, h6⟩, ?_⟩, ?_⟩, X.book⟩
    · show T.heap.size + R'.cells ≤ e.platform.maxCells
      omega
    · show T.slotsUsed + R'.slots ≤ e.platform.maxSlots
      omega
  · rw [State.stackLimits_setFrames]; rfl
  · rw [State.stackBytes_setFrames]; rfl
  · refine ⟨?_, Nat.le_refl _, Nat.le_refl _, ?_, ?_, fun a c9 h9 => ⟨c9, h9, rfl, rfl, fun _ _ => rfl⟩⟩
    · obtain ⟨t, ht, -⟩ := State.frames_cons hr
      show T.setVm s.vm = { ((T.setVm s.vm).setFrames (.invoking m args :: below)).setFrames (T.setVm s.vm).frames with heap := T.heap, slotsUsed := T.slotsUsed }
      rw [State.setFrames_setFrames, State.setFrames_self ht]
      rfl
    · show T.slotsUsed = T.slotsUsed + ((T.heap.toList.drop T.heap.size).map (·.slots.size)).sum
      rw [List.drop_eq_nil_of_le (Nat.le_of_eq Array.length_toList)]
      rfl
    · show ((T.heap.toList.drop T.heap.size).map (·.slots.size)).sum ≤ 0
      rw [List.drop_eq_nil_of_le (Nat.le_of_eq Array.length_toList)]
      exact Nat.le_refl _
/-- 'throw new E()': new; dup; invokespecial; athrow -/
theorem vx_throw0 {cc : ByteArray} {pc : Nat} (hexec : p.tables.exec = Jvm.exec) (hb : c.code = cc) (hl : l.stackTraces = false) {own cls : String} {names : List String} {ik ic mc ms : Nat} {A : Nat → Prop}
    (hown : s.vm.findClass own = some m.cls) (hcls : Bundle.fit cls = true) (hnames : ∀ n ∈ names, Bundle.fit n = true)
    (hk : (Cond.classLink own ik cls).before args s = true) (hini : (Cond.initialized cls).before args s = true) (hat : ∀ w ∈ vx_at0 own ic cls names, w.before args s = true)
    (hgood : ∀ w ∈ Cond.classLink own ik cls :: Cond.initialized cls :: vx_at0 own ic cls names, vx_ot w = true)
    (hU : vx_Zq Bundle.tN "UNASSIGNED_STACK" Bundle.steD A s s.heap) (hN : vx_Zq Bundle.tN "SUPPRESSED_SENTINEL" Bundle.listD A s s.heap) (hS : va_S A s.heap H locs) (hsize : ls.size = c.maxLocals)
    (d0 : decode cc pc = .ok (.new ik, 3)) (d3 : decode cc (pc + 3) = .ok (.dup, 1)) (d4 : decode cc (pc + 4) = .ok (.invokespecial ic, 3)) (d7 : decode cc (pc + 7) = .ok (.athrow, 1))
    (hout : ∀ x ∈ c.exceptionTable.toList, covers x (pc + 7) = false)
    (hRframes : names.length + 3 < R.frames) (hRlocals : (rest.map fun v => v.category).sum + (13 * (names.length + 1) + 42) ≤ R.locals) (hRcells : cells + 1 ≤ R.cells) (hRslots : slots + 6 ≤ R.slots) (hlocks : meth.locks = false)
    (hx : ∀ t : State, s.vm.Alike t.vm → H.size ≤ t.heap.size → (∀ q : Nat, q < H.size → t.heap[q]? = H[q]?) → XC cls s t)
    (hf : ∀ z ∈ locs, free z.base) (hc : cells + 1 ≤ mc) (hs : slots + 6 ≤ ms) :
    W p l e R s m args below meth c H locs cells slots (vx_MQ below Qc XC args s mc ms free) (F0 m pc ls rest) := by
  intro T hT X
  have htr : e.platform.stackTraces = false := (show e.platform.stackTraces = l.stackTraces by rw [X.admits.platform]).trans hl
  have Y := vx_rebase X (R' := { frames := R.frames, locals := R.locals, cells := 1, slots := 6 }) (Nat.le_refl _) (Nat.le_refl _) hRcells hRslots
  obtain ⟨s', hA⟩ : ∃ z, z = (T.setVm s.vm).setFrames (.invoking m args :: below) := ⟨_, rfl⟩
  rw [← hA] at Y
  have hvm : s'.vm = s.vm := by rw [hA]; rfl
  have hhp : s'.heap = H := by rw [hA]; exact hT
  have hW0 : s.WarmedH s'.vm := by rw [hvm]; exact State.WarmedH.refl s
  have hat' : ∀ w ∈ vx_at0 own ic cls names, w.before args s' = true := fun w hw => vx_ot_at hW0 hvm.symm (hgood w (List.mem_cons_of_mem _ (List.mem_cons_of_mem _ hw))) (hat w hw)
  have hk' : (Cond.classLink own ik cls).before args s' = true := vx_ot_at hW0 hvm.symm (hgood _ List.mem_cons_self) hk
  have hini' : (Cond.initialized cls).before args s' = true := vx_ot_at hW0 hvm.symm (hgood _ (List.mem_cons_of_mem _ List.mem_cons_self)) hini
  have hU' : vx_Zq Bundle.tN "UNASSIGNED_STACK" Bundle.steD A s' s'.heap := by rw [hhp]; exact vx_Zq.moved hW0.alike (hU.kept hS.2.1)
  have hN' : vx_Zq Bundle.tN "SUPPRESSED_SENTINEL" Bundle.listD A s' s'.heap := by rw [hhp]; exact vx_Zq.moved hW0.alike (hN.kept hS.2.1)
  have h : ∀ w ∈ Bundle.ownAtoms0 own ic cls names, w.before args s' = true := vx_own hat' (vx_isRefq hU'.1) (vx_isRefq hN'.1) hU'.2.word hN'.2.word
  have hown' : s'.vm.findClass own = some m.cls := by rw [hvm]; exact hown
  have hins : (Cond.instantiable cls 6).before args s' = true := h _ (by simp [Bundle.ownAtoms0])
  obtain ⟨vm₁, cX, kX, hfX, hkX, -, -, X₁, st1⟩ := Y.newCold hexec (own := own) (C := cls) (index := ik) (n := 6) hown' hk' hins hini'
    (g := F0 m pc ls rest) rfl (by rw [hb]; exact d0) (Nat.le_refl _) (Nat.le_refl _)
  generalize hT1 : (T.setVm vm₁).pushCell { cls := cX, slots := kX.instanceTypes.map defaultValue, vm := .none } = T1 at X₁ st1
  have hcat : (Value.ref T.heap.size).category = 1 := rfl
  have hcellA : T1.heap[T.heap.size]? = some (freshCell cX kX) := by rw [← hT1]; exact State.heap_pushCell_size _ _
  have d3' : decode c.code (pc + 3) = .ok (.dup, 1) := by rw [hb]; exact d3
  obtain ⟨U, hsteps, hrun, hend, hW, hsame, ce, hce, hO⟩ := X₁.ctorThrow0 hexec htr (own := own) (cls := cls) (names := names) (ic := ic) hown' hcls hnames h (fun x hx => nomatch hx) hfX hkX hcellA (by rw [hhp, hT]; exact Nat.le_refl _)
    (g := { method := m, pc := pc + 4, locals := ls, stack := .ref T.heap.size :: .ref T.heap.size :: rest, locked := none }) rfl hsize rfl rfl (rest := rest) rfl
    (by rw [hb]; exact d4) (by rw [hb]; exact d7) hout hRframes (by simp only [List.map_cons, List.sum_cons, hcat]; omega) hlocks
  obtain ⟨f1, f2⟩ := vx_frame hsame
  rw [hhp] at f1 f2
  have hWs : s.WarmedH U.vm := State.WarmedH.trans hW0 hW
  have hcl : s.vm.findClass cls = some ce.cls := by
    have h9 := hO.cls
    rw [hvm] at h9
    exact h9
  have hall : s.sameButNew ({ U with vm := s.vm } : State) locs mc ms := by
    subst hA
    obtain ⟨e1, e2⟩ := hsame
    rw [State.setFrames_setFrames] at e1
    have h2 : (T.setVm s.vm).sameButNew ({ U with vm := s.vm } : State) [] (0 + 1) (0 + 6) := ⟨e1, e2⟩
    have h3 := X.same.trans h2
    rw [List.append_nil] at h3
    exact h3.mono hc hs
  refine ⟨U, ?_, .threw T.heap.size, hrun, hend, Or.inr ⟨T.heap.size, rfl, cls, ce, locs, hx U hWs.alike f1 (fun q hq => f2 q hq (fun z hz => nomatch hz)), hce, hO.vm, hcl, hWs, hall, hf⟩⟩
  refine st1 _ ?_
  show Steps p.tables e below (T1.setTop { method := m, pc := pc + 3, locals := ls, stack := .ref T.heap.size :: rest, locked := none }) _
  jvm_step X₁.here [X₁.here.top, hexec, d3', Value.category]
  exact hsteps
/-- 'throw new E("text")': new; dup; ldc; invokespecial; athrow -/
theorem vx_throwS {cc : ByteArray} {pc : Nat} (hexec : p.tables.exec = Jvm.exec) (hb : c.code = cc) (hl : l.stackTraces = false) {own cls text : String} {names : List String} {ik is ic mc ms sa : Nat} {A : Nat → Prop}
    (hown : s.vm.findClass own = some m.cls) (hcls : Bundle.fit cls = true) (hnames : ∀ n ∈ names, Bundle.fit n = true)
    (hk : (Cond.classLink own ik cls).before args s = true) (hini : (Cond.initialized cls).before args s = true) (hstr : vk_R own is text sa s) (hat : ∀ w ∈ vx_atS own ic cls names, w.before args s = true)
    (hgood : ∀ w ∈ Cond.classLink own ik cls :: Cond.initialized cls :: vx_atS own ic cls names, vx_ot w = true)
    (hU : vx_Zq Bundle.tN "UNASSIGNED_STACK" Bundle.steD A s s.heap) (hN : vx_Zq Bundle.tN "SUPPRESSED_SENTINEL" Bundle.listD A s s.heap) (hS : va_S A s.heap H locs) (hsize : ls.size = c.maxLocals)
    (d0 : decode cc pc = .ok (.new ik, 3)) (d3 : decode cc (pc + 3) = .ok (.dup, 1)) (d4 : decode cc (pc + 4) = .ok (.ldc is, 2)) (d6 : decode cc (pc + 6) = .ok (.invokespecial ic, 3)) (d9 : decode cc (pc + 9) = .ok (.athrow, 1))
    (hout : ∀ x ∈ c.exceptionTable.toList, covers x (pc + 9) = false)
    (hRframes : names.length + 3 < R.frames) (hRlocals : (rest.map fun v => v.category).sum + (13 * (names.length + 1) + 43) ≤ R.locals) (hRcells : cells + 1 ≤ R.cells) (hRslots : slots + 6 ≤ R.slots) (hlocks : meth.locks = false)
    (hx : ∀ t : State, s.vm.Alike t.vm → H.size ≤ t.heap.size → (∀ q : Nat, q < H.size → t.heap[q]? = H[q]?) → XC cls s t)
    (hf : ∀ z ∈ locs, free z.base) (hc : cells + 1 ≤ mc) (hs : slots + 6 ≤ ms) :
    W p l e R s m args below meth c H locs cells slots (vx_MQ below Qc XC args s mc ms free) (F0 m pc ls rest) := by
  intro T hT X
  have htr : e.platform.stackTraces = false := (show e.platform.stackTraces = l.stackTraces by rw [X.admits.platform]).trans hl
  have Y := vx_rebase X (R' := { frames := R.frames, locals := R.locals, cells := 1, slots := 6 }) (Nat.le_refl _) (Nat.le_refl _) hRcells hRslots
  obtain ⟨s', hA⟩ : ∃ z, z = (T.setVm s.vm).setFrames (.invoking m args :: below) := ⟨_, rfl⟩
  rw [← hA] at Y
  have hvm : s'.vm = s.vm := by rw [hA]; rfl
  have hhp : s'.heap = H := by rw [hA]; exact hT
  have hW0 : s.WarmedH s'.vm := by rw [hvm]; exact State.WarmedH.refl s
  have hat' : ∀ w ∈ vx_atS own ic cls names, w.before args s' = true := fun w hw => vx_ot_at hW0 hvm.symm (hgood w (List.mem_cons_of_mem _ (List.mem_cons_of_mem _ hw))) (hat w hw)
  have hk' : (Cond.classLink own ik cls).before args s' = true := vx_ot_at hW0 hvm.symm (hgood _ List.mem_cons_self) hk
  have hini' : (Cond.initialized cls).before args s' = true := vx_ot_at hW0 hvm.symm (hgood _ (List.mem_cons_of_mem _ List.mem_cons_self)) hini
  have hU' : vx_Zq Bundle.tN "UNASSIGNED_STACK" Bundle.steD A s' s'.heap := by rw [hhp]; exact vx_Zq.moved hW0.alike (hU.kept hS.2.1)
  have hN' : vx_Zq Bundle.tN "SUPPRESSED_SENTINEL" Bundle.listD A s' s'.heap := by rw [hhp]; exact vx_Zq.moved hW0.alike (hN.kept hS.2.1)
  have h : ∀ w ∈ Bundle.ownAtoms own ic cls names, w.before args s' = true := vx_own hat' (vx_isRefq hU'.1) (vx_isRefq hN'.1) hU'.2.word hN'.2.word
  have hown' : s'.vm.findClass own = some m.cls := by rw [hvm]; exact hown
  have hins : (Cond.instantiable cls 6).before args s' = true := h _ (by simp [Bundle.ownAtoms])
  obtain ⟨vm₁, cX, kX, hfX, hkX, -, -, X₁, st1⟩ := Y.newCold hexec (own := own) (C := cls) (index := ik) (n := 6) hown' hk' hins hini'
    (g := F0 m pc ls rest) rfl (by rw [hb]; exact d0) (Nat.le_refl _) (Nat.le_refl _)
  generalize hT1 : (T.setVm vm₁).pushCell { cls := cX, slots := kX.instanceTypes.map defaultValue, vm := .none } = T1 at X₁ st1
  have hcat : (Value.ref T.heap.size).category = 1 := rfl
  have hcellA : T1.heap[T.heap.size]? = some (freshCell cX kX) := by rw [← hT1]; exact State.heap_pushCell_size _ _
  have d3' : decode c.code (pc + 3) = .ok (.dup, 1) := by rw [hb]; exact d3
  have d4' : decode c.code (pc + 4) = .ok (.ldc is, 2) := by rw [hb]; exact d4
  have hstr' : vk_R own is text sa s' := vk_R.warm hW0 hstr
  obtain ⟨U, hsteps, hrun, hend, hW, hsame, ce, hce, hO⟩ := X₁.ctorThrowS hexec htr (own := own) (cls := cls) (names := names) (ic := ic) hown' hcls hnames h (fun x hx => nomatch hx) hfX hkX hcellA (by rw [hhp, hT]; exact Nat.le_refl _) (msg := .ref sa) rfl
    (g := { method := m, pc := pc + 6, locals := ls, stack := .ref sa :: .ref T.heap.size :: .ref T.heap.size :: rest, locked := none }) rfl hsize rfl rfl (rest := rest) rfl
    (by rw [hb]; exact d6) (by rw [hb]; exact d9) hout hRframes (by simp only [List.map_cons, List.sum_cons, hcat]; omega) hlocks
  obtain ⟨f1, f2⟩ := vx_frame hsame
  rw [hhp] at f1 f2
  have hWs : s.WarmedH U.vm := State.WarmedH.trans hW0 hW
  have hcl : s.vm.findClass cls = some ce.cls := by
    have h9 := hO.cls
    rw [hvm] at h9
    exact h9
  have hall : s.sameButNew ({ U with vm := s.vm } : State) locs mc ms := by
    subst hA
    obtain ⟨e1, e2⟩ := hsame
    rw [State.setFrames_setFrames] at e1
    have h2 : (T.setVm s.vm).sameButNew ({ U with vm := s.vm } : State) [] (0 + 1) (0 + 6) := ⟨e1, e2⟩
    have h3 := X.same.trans h2
    rw [List.append_nil] at h3
    exact h3.mono hc hs
  refine ⟨U, ?_, .threw T.heap.size, hrun, hend, Or.inr ⟨T.heap.size, rfl, cls, ce, locs, hx U hWs.alike f1 (fun q hq => f2 q hq (fun z hz => nomatch hz)), hce, hO.vm, hcl, hWs, hall, hf⟩⟩
  refine st1 _ ?_
  show Steps p.tables e below (T1.setTop { method := m, pc := pc + 3, locals := ls, stack := .ref T.heap.size :: rest, locked := none }) _
  jvm_step X₁.here [X₁.here.top, hexec, d3', Value.category]
  exact X₁.ldcString hexec (own := own) (text := text) (index := is) (a := sa) hown' hstr'.1 hstr'.2
    (g := { method := m, pc := pc + 4, locals := ls, stack := .ref T.heap.size :: .ref T.heap.size :: rest, locked := none }) rfl d4' _ hsteps
/-- 'throw new E("text")', the text by a wide index -/
theorem vx_throwSW {cc : ByteArray} {pc : Nat} (hexec : p.tables.exec = Jvm.exec) (hb : c.code = cc) (hl : l.stackTraces = false) {own cls text : String} {names : List String} {ik is ic mc ms sa : Nat} {A : Nat → Prop}
    (hown : s.vm.findClass own = some m.cls) (hcls : Bundle.fit cls = true) (hnames : ∀ n ∈ names, Bundle.fit n = true)
    (hk : (Cond.classLink own ik cls).before args s = true) (hini : (Cond.initialized cls).before args s = true) (hstr : vk_R own is text sa s) (hat : ∀ w ∈ vx_atS own ic cls names, w.before args s = true)
    (hgood : ∀ w ∈ Cond.classLink own ik cls :: Cond.initialized cls :: vx_atS own ic cls names, vx_ot w = true)
    (hU : vx_Zq Bundle.tN "UNASSIGNED_STACK" Bundle.steD A s s.heap) (hN : vx_Zq Bundle.tN "SUPPRESSED_SENTINEL" Bundle.listD A s s.heap) (hS : va_S A s.heap H locs) (hsize : ls.size = c.maxLocals)
    (d0 : decode cc pc = .ok (.new ik, 3)) (d3 : decode cc (pc + 3) = .ok (.dup, 1)) (d4 : decode cc (pc + 4) = .ok (.ldc_w is, 3)) (d7 : decode cc (pc + 7) = .ok (.invokespecial ic, 3)) (d10 : decode cc (pc + 10) = .ok (.athrow, 1))
    (hout : ∀ x ∈ c.exceptionTable.toList, covers x (pc + 10) = false)
    (hRframes : names.length + 3 < R.frames) (hRlocals : (rest.map fun v => v.category).sum + (13 * (names.length + 1) + 43) ≤ R.locals) (hRcells : cells + 1 ≤ R.cells) (hRslots : slots + 6 ≤ R.slots) (hlocks : meth.locks = false)
    (hx : ∀ t : State, s.vm.Alike t.vm → H.size ≤ t.heap.size → (∀ q : Nat, q < H.size → t.heap[q]? = H[q]?) → XC cls s t)
    (hf : ∀ z ∈ locs, free z.base) (hc : cells + 1 ≤ mc) (hs : slots + 6 ≤ ms) :
    W p l e R s m args below meth c H locs cells slots (vx_MQ below Qc XC args s mc ms free) (F0 m pc ls rest) := by
  intro T hT X
  have htr : e.platform.stackTraces = false := (show e.platform.stackTraces = l.stackTraces by rw [X.admits.platform]).trans hl
  have Y := vx_rebase X (R' := { frames := R.frames, locals := R.locals, cells := 1, slots := 6 }) (Nat.le_refl _) (Nat.le_refl _) hRcells hRslots
  obtain ⟨s', hA⟩ : ∃ z, z = (T.setVm s.vm).setFrames (.invoking m args :: below) := ⟨_, rfl⟩
  rw [← hA] at Y
  have hvm : s'.vm = s.vm := by rw [hA]; rfl
  have hhp : s'.heap = H := by rw [hA]; exact hT
  have hW0 : s.WarmedH s'.vm := by rw [hvm]; exact State.WarmedH.refl s
  have hat' : ∀ w ∈ vx_atS own ic cls names, w.before args s' = true := fun w hw => vx_ot_at hW0 hvm.symm (hgood w (List.mem_cons_of_mem _ (List.mem_cons_of_mem _ hw))) (hat w hw)
  have hk' : (Cond.classLink own ik cls).before args s' = true := vx_ot_at hW0 hvm.symm (hgood _ List.mem_cons_self) hk
  have hini' : (Cond.initialized cls).before args s' = true := vx_ot_at hW0 hvm.symm (hgood _ (List.mem_cons_of_mem _ List.mem_cons_self)) hini
  have hU' : vx_Zq Bundle.tN "UNASSIGNED_STACK" Bundle.steD A s' s'.heap := by rw [hhp]; exact vx_Zq.moved hW0.alike (hU.kept hS.2.1)
  have hN' : vx_Zq Bundle.tN "SUPPRESSED_SENTINEL" Bundle.listD A s' s'.heap := by rw [hhp]; exact vx_Zq.moved hW0.alike (hN.kept hS.2.1)
  have h : ∀ w ∈ Bundle.ownAtoms own ic cls names, w.before args s' = true := vx_own hat' (vx_isRefq hU'.1) (vx_isRefq hN'.1) hU'.2.word hN'.2.word
  have hown' : s'.vm.findClass own = some m.cls := by rw [hvm]; exact hown
  have hins : (Cond.instantiable cls 6).before args s' = true := h _ (by simp [Bundle.ownAtoms])
  obtain ⟨vm₁, cX, kX, hfX, hkX, -, -, X₁, st1⟩ := Y.newCold hexec (own := own) (C := cls) (index := ik) (n := 6) hown' hk' hins hini'
    (g := F0 m pc ls rest) rfl (by rw [hb]; exact d0) (Nat.le_refl _) (Nat.le_refl _)
  generalize hT1 : (T.setVm vm₁).pushCell { cls := cX, slots := kX.instanceTypes.map defaultValue, vm := .none } = T1 at X₁ st1
  have hcat : (Value.ref T.heap.size).category = 1 := rfl
  have hcellA : T1.heap[T.heap.size]? = some (freshCell cX kX) := by rw [← hT1]; exact State.heap_pushCell_size _ _
  have d3' : decode c.code (pc + 3) = .ok (.dup, 1) := by rw [hb]; exact d3
  have d4' : decode c.code (pc + 4) = .ok (.ldc_w is, 3) := by rw [hb]; exact d4
  have hstr' : vk_R own is text sa s' := vk_R.warm hW0 hstr
  obtain ⟨U, hsteps, hrun, hend, hW, hsame, ce, hce, hO⟩ := X₁.ctorThrowS hexec htr (own := own) (cls := cls) (names := names) (ic := ic) hown' hcls hnames h (fun x hx => nomatch hx) hfX hkX hcellA (by rw [hhp, hT]; exact Nat.le_refl _) (msg := .ref sa) rfl
    (g := { method := m, pc := pc + 7, locals := ls, stack := .ref sa :: .ref T.heap.size :: .ref T.heap.size :: rest, locked := none }) rfl hsize rfl rfl (rest := rest) rfl
    (by rw [hb]; exact d7) (by rw [hb]; exact d10) hout hRframes (by simp only [List.map_cons, List.sum_cons, hcat]; omega) hlocks
  obtain ⟨f1, f2⟩ := vx_frame hsame
  rw [hhp] at f1 f2
  have hWs : s.WarmedH U.vm := State.WarmedH.trans hW0 hW
  have hcl : s.vm.findClass cls = some ce.cls := by
    have h9 := hO.cls
    rw [hvm] at h9
    exact h9
  have hall : s.sameButNew ({ U with vm := s.vm } : State) locs mc ms := by
    subst hA
    obtain ⟨e1, e2⟩ := hsame
    rw [State.setFrames_setFrames] at e1
    have h2 : (T.setVm s.vm).sameButNew ({ U with vm := s.vm } : State) [] (0 + 1) (0 + 6) := ⟨e1, e2⟩
    have h3 := X.same.trans h2
    rw [List.append_nil] at h3
    exact h3.mono hc hs
  refine ⟨U, ?_, .threw T.heap.size, hrun, hend, Or.inr ⟨T.heap.size, rfl, cls, ce, locs, hx U hWs.alike f1 (fun q hq => f2 q hq (fun z hz => nomatch hz)), hce, hO.vm, hcl, hWs, hall, hf⟩⟩
  refine st1 _ ?_
  show Steps p.tables e below (T1.setTop { method := m, pc := pc + 3, locals := ls, stack := .ref T.heap.size :: rest, locked := none }) _
  jvm_step X₁.here [X₁.here.top, hexec, d3', Value.category]
  exact X₁.ldcStringW hexec (own := own) (text := text) (index := is) (a := sa) hown' hstr'.1 hstr'.2
    (g := { method := m, pc := pc + 4, locals := ls, stack := .ref T.heap.size :: .ref T.heap.size :: rest, locked := none }) rfl d4' _ hsteps
end Ends
section Bodies
variable {l : Launch}
theorem vx_ofW {y : MethodName} {ws ws' : List Cond} {rm : Room} {Pc : Array Value → State → Prop} {Qc : Array Value → State → Outcome → State → Prop} {XC : String → State → State → Prop} {mc ms : Nat} {free : Addr → Prop} {cc : ByteArray} {maxL : Nat} {ret : Option FieldType}
    (hy : plainName y.cls = true) (hw : ws = Cond.code y cc maxL ret :: ws')
    (body : ∀ p e s m args below meth c s₁, BodyLoose p l y (headSpec ws rm) cc maxL ret e s m args below meth c s₁ → c.maxLocals = maxL → (∀ x ∈ c.exceptionTable.toList, False) → Pc args s →
      W p l e (headSpec ws rm).room s m args below meth c s.heap [] 0 0 (vx_MQ below Qc XC args s mc ms free) (entryFrame m args maxL)) : vx_Met l y ws rm Pc Qc XC mc ms free := by
  refine MetFree.of_bodyS (code := cc) (maxLocals := maxL) (ret := ret) hy ?_ ?_
  · intro args s m h hn
    obtain ⟨meth, c, h1, h2, h3, h4, h5, h6, -, -⟩ := Cond.code_spec hn (atoms_spec (ws := ws) h _ (by rw [hw]; exact List.mem_cons_self))
    exact ⟨meth, c, h1, h2, h3, h4, h5, h6⟩
  · intro p e s m args below meth c s₁ B hml hP _
    have hh0 : s₁.heap = s.heap := by rw [B.state]; rfl
    have ht : ∀ x ∈ c.exceptionTable.toList, False := by
      obtain ⟨meth9, c9, h1, h2, -, -, -, -, h7, -⟩ := Cond.code_spec B.named (atoms_spec (ws := ws) B.pre _ (by rw [hw]; exact List.mem_cons_self))
      cases Option.some.inj (h1.symm.trans B.method)
      cases Option.some.inj (h2.symm.trans (Stand.of_body B).code)
      intro x hx
      rw [Array.isEmpty_iff.mp h7] at hx
      cases hx
    obtain ⟨t, a1, o, b1, b2, b3⟩ := body p e s m args below meth c s₁ B hml ht hP s₁ hh0 (Stand.of_body B)
    exact ⟨t, o, a1, b1, b2, b3⟩
/-- the table of a body with handlers -/
theorem vx_table {p : Program} {x y : MethodName} {S : Spec} {cc bytes : ByteArray} {maxL maxL' : Nat} {ret ret' : Option FieldType} {e : Env} {s s₁ : State} {m : MethodId} {args : Array Value} {below : List Frame} {meth : Method} {c : Code} {hh : List (Nat × Nat × Nat × Nat)}
    (B : BodyLoose p l y S cc maxL ret e s m args below meth c s₁) (h : (Cond.codeWith y bytes maxL' ret' hh).before args s = true) : c.exceptionTable.toList = tableOf hh := by
  obtain ⟨m9, meth9, c9, hn9, h1, h2, -, -, h6, -⟩ := Cond.codeWith_spec h
  cases Option.some.inj (hn9.symm.trans B.named)
  cases Option.some.inj (h1.symm.trans B.method)
  cases Option.some.inj (h2.symm.trans (Stand.of_body B).code)
  rw [← h6, table_eq]
end Bodies
end VXA
/-! ===== END ===== -/
/-! ===== BEGIN a static call of a method with an exception table ===== -/
section VXS
variable {p : Program} {l : Launch} {e : Env} {R : Room} {s : State} {m : MethodId} {args : Array Value} {below : List Frame} {meth : Method} {c : Code} {T : State} {H : Heap} {locs : List Loc} {cells slots : Nat}
abbrev vx_CSW (R : Room) (s : State) (args : Array Value) (own : String) (index : Nat) (y : MethodName) (bytes : ByteArray) (maxL : Nat) (ret : Option FieldType) (hh : List (Nat × Nat × Nat × Nat)) (ws : List Cond) (rm : Room) (mc ms n : Nat) : Prop :=
  (rm.cells = mc ∧ rm.slots = ms ∧ rm.frames + 1 ≤ R.frames ∧ 8 + (maxL + 11) + rm.locals ≤ R.locals ∧ (∀ w ∈ ws, ∀ (a' : Array Value) (U : State), s.WarmedH U.vm → w.before a' U = true) ∧ Cond.codeWith y bytes maxL ret hh ∈ ws) ∧
  (Cond.codeWith y bytes maxL ret hh).before args s = true ∧ (Cond.initialized y.cls).before args s = true ∧ (y.cls ≠ "java/lang/invoke/MethodHandle" ∧ y.cls ≠ "java/lang/invoke/VarHandle") ∧
  (∀ sig, parseMethodDescriptor y.desc = some sig → n = sig.parameters.length) ∧ (Cond.methodLink own index y).before args s = true ∧ (Cond.static y).before args s = true
theorem vx_cwSW {own : String} {index maxL mc ms : Nat} {y : MethodName} {bytes : ByteArray} {ret : Option FieldType} {hh : List (Nat × Nat × Nat × Nat)} {Ts ws ws' : List Cond} {rm : Room} (n : Nat) (ht : ∀ w ∈ Ts, w.before args s = true) (hT : GoodIn Ts (va_wsS own index y ws)) (hw : ws = Cond.codeWith y bytes maxL ret hh :: ws') (hrc : rm.cells = mc) (hrs : rm.slots = ms)
    (hd : y.cls ≠ "java/lang/invoke/MethodHandle" ∧ y.cls ≠ "java/lang/invoke/VarHandle" ∧ (parseMethodDescriptor y.desc).map (fun d => d.parameters.length) = some n) (hR : rm.frames + 1 ≤ R.frames ∧ 8 + (maxL + 11) + rm.locals ≤ R.locals) :
    vx_CSW R s args own index y bytes maxL ret hh ws rm mc ms n := by
  have ok : ∀ w ∈ va_wsS own index y ws, w.before args s = true := fun w h => ht w (hT w h).1
  have hG : GoodIn Ts ws := fun w h => hT w (by unfold va_wsS; exact List.mem_append_right _ h)
  have hc : Cond.codeWith y bytes maxL ret hh ∈ ws := by rw [hw]; exact List.mem_cons_self
  refine ⟨⟨hrc, hrs, hR.1, hR.2, pay_in ht hG, hc⟩, ht _ (hG _ hc).1, ok _ (by simp [va_wsS]), ⟨hd.1, hd.2.1⟩, fun sig h => ?_, ok _ (by simp [va_wsS]), ok _ (by simp [va_wsS])⟩
  have h2 := hd.2.2
  rw [h] at h2
  exact (Option.some.inj h2).symm
theorem vx_callSW (X : Stand p l e R s m args below meth c T locs cells slots) (hexec : p.tables.exec = Jvm.exec) {own : String} {index : Nat} {y : MethodName} {bytes : ByteArray} {maxL : Nat} {ret : Option FieldType} {hh : List (Nat × Nat × Nat × Nat)}
    (hown : s.vm.findClass own = some m.cls) (hlink : (Cond.methodLink own index y).before args s = true) (hstat : (Cond.static y).before args s = true) (hinit : (Cond.initialized y.cls).before args s = true)
    (hcode : (Cond.codeWith y bytes maxL ret hh).before args s = true) (hy : y.cls ≠ "java/lang/invoke/MethodHandle" ∧ y.cls ≠ "java/lang/invoke/VarHandle")
    {W9 : Nat} {Pre : Pt → Array Value → Prop} {Post : Pt → Array Value → Option Value → Pt → Prop} (hK : Back l R p e below s args y 3 W9 Pre Post)
    {g : JFrame} (hg : g.method = m) (hsize : g.locals.size = c.maxLocals) {argsL rest : List Value} (hlen : ∀ sig, parseMethodDescriptor y.desc = some sig → argsL.length = sig.parameters.length)
    (hstack : g.stack = argsL.reverse ++ rest) (hW : 2 * g.monitorRoom + (rest.map fun v => v.category).sum ≤ W9) (hdg : decode c.code g.pc = .ok (.invokestatic index, 3))
    (hpre : ∀ vm₁, s.WarmedH vm₁ → Pre ⟨T.setVm vm₁, locs, cells, slots⟩ argsL.toArray) :
    ∃ (v : Option Value) (vm₁ : Vm) (B : Pt), s.WarmedH vm₁ ∧ Stand p l e R s m args below meth c B.U B.locs B.cells B.slots ∧ Post ⟨T.setVm vm₁, locs, cells, slots⟩ argsL.toArray v B ∧
      ∀ target, Steps p.tables e below (B.U.setTop { g with pc := g.pc + 3, stack := v.toList ++ rest }) target → Steps p.tables e below (T.setTop g) target := by
  obtain ⟨mk, methM, cM, hnamed, hmethM, -, -, -, -, -, -, hsigM⟩ := Cond.codeWith_spec hcode
  have hstatic : methM.isStatic = true := Cond.static_spec hnamed hmethM hstat
  obtain ⟨kP, hkP, -⟩ := className_of_methodNamed hnamed
  have hinitP : kP.init = .initialized := Cond.initialized_spec (findClass_of_methodNamed hnamed) hkP hinit
  obtain ⟨vm₁, X₁, hstep₁⟩ := X.invokestatic hexec hown hlink hnamed hmethM hstatic hkP hinitP hy (g := g) hg (argsL := argsL) (rest := rest) (hlen _ hsigM) hstack hdg
  obtain ⟨v, B, X', hpost, hsteps⟩ := hK m meth c ⟨T.setVm vm₁, locs, cells, slots⟩ { g with stack := rest } (.invokestatic index) mk argsL.toArray X₁ hg hsize hdg hW (X₁.named hnamed) (hpre vm₁ X₁.warmed)
  exact ⟨v, vm₁, B, X₁.warmed, X', hpost, fun target h => hstep₁ _ fun acts => by rw [doInvoke_state]; exact hsteps.trans h⟩
theorem vx_runSW {y : MethodName} {bytes cc : ByteArray} {maxL nL mc ms n index : Nat} {ret : Option FieldType} {hh : List (Nat × Nat × Nat × Nat)} {ws : List Cond} {rm : Room} {Pc : Array Value → State → Prop} {Qc : Array Value → State → Outcome → State → Prop} {free : Addr → Prop} {Ts : List Cond} {own : String} {As rest : List Value} {g : JFrame}
    (S : CallFix p m c cc nL s args Ts own) (hM : Met l y ws rm Pc Qc mc ms free) (cw : vx_CSW R s args own index y bytes maxL ret hh ws rm mc ms n) (hp : PreS s H Pc As)
    (hg : g.method = m) (hn : As.length = n) (hsize : g.locals.size = nL) (hstack : g.stack = As.reverse ++ rest) (hW : 2 * g.monitorRoom + (rest.map fun v => v.category).sum ≤ 8) (hdg : decode cc g.pc = .ok (.invokestatic index, 3)) (hf : cells + mc ≤ R.cells ∧ slots + ms ≤ R.slots) :
    va_Run p l e R s m args below meth c H locs cells slots mc ms g rest (Qc As.toArray) (free) := by
  obtain ⟨⟨hrc, hrs, hfr, hlo, hws, hcw⟩, hcode, hini, hy, hlen, hl, hstt⟩ := cw
  have hK : Back l R p e below s args y 3 8 (PreOf R mc ms Pc) (PostOf Qc mc ms free) := va_backW (hh := hh) (bytes := bytes) (maxL := maxL) (ret := ret) hM hp.1 hrc hrs hfr hlo hws hcw (fun a' U hW => word_at hW (Or.inl (by first | rfl | simp [Cond.onTables, Cond.keeps, Cond.steady])) hini)
  obtain ⟨hx, hb, hml, ho, -⟩ := S
  intro T hT X
  obtain ⟨v, vm₁, ⟨U', l2, c2, s2⟩, hW₁, X', ⟨g', mk, t, L, e1, e2, hq, h1, hL, h2, h3⟩, st⟩ := vx_callSW X hx (hh := hh) (bytes := bytes) (maxL := maxL) (ret := ret) ho hl hstt hini hcode hy hK hg (hsize.trans hml.symm) (argsL := As) (rest := rest) (fun sig h => hn.trans (hlen sig h)) hstack hW (by rw [hb]; exact hdg)
    (fun vm₁ hW₁ => ⟨hf.1, hf.2, hp.2 (T.setVm vm₁) hT hW₁⟩)
  dsimp only [Pt.U, Pt.locs, Pt.cells, Pt.slots] at X' e1 e2 h1 h2 h3 st
  subst h1; subst h2; subst h3
  exact ⟨v, (T.setVm vm₁).calling g' mk As.toArray, t, U', L, hT, X', hL, e1, e2, hq, st⟩
/-- not caught here, past rows that name other classes: it goes on to the caller -/
theorem vx_outP {p : Program} {l : Launch} {e : Env} {R : Room} {s : State} {m : MethodId} {args : Array Value} {below : List Frame} {meth : Method} {c : Code} {H : Heap} {locs : List Loc} {cells slots : Nat} {free : Addr → Prop} {ls : Array Slot} {rest : List Value} {Qc : Array Value → State → Outcome → State → Prop} {XC : String → State → State → Prop}
    {pc : Nat} {own E : String} {ce : Cell} {q : Addr} {mc ms : Nat} (hown : s.vm.findClass own = some m.cls) (hlocks : meth.locks = false)
    (hpass : ∀ z ∈ c.exceptionTable.toList, covers z pc = false ∨ (z.catchType ≠ 0 ∧ ∃ nm : String, (Cond.classLink own z.catchType nm).before args s = true ∧ va_Nc E nm s)) (hcell : H[q]? = some ce) (hv : ce.vm = .none) (hcl : s.vm.findClass E = some ce.cls)
    (hx : ∀ t : State, t.heap = H → s.vm.Alike t.vm → XC E s t) (hf : ∀ z ∈ locs, free z.base) (hc : cells ≤ mc) (hs : slots ≤ ms) :
    vx_W p l e R s m args below meth c H locs cells slots (vx_MQ below Qc XC args s mc ms free) (F0 m pc ls rest) q := by
  intro T hT X
  have hpl : e.platform.magicAccessors = ({} : Platform).magicAccessors := by rw [X.admits.platform]
  obtain ⟨vm', hW', X', st⟩ := X.outThrough hlocks q (g := F0 m pc ls rest) rfl rfl rfl (cell := ce) (by rw [hT]; exact hcell) (by rw [hv]; rfl)
    (by obtain ⟨k9, h9, -⟩ := Vm.findClass_spec hcl; exact ⟨k9, h9⟩) (fun z hz => by
      rcases hpass z hz with h | ⟨hz0, nm, hl1, hn1⟩
      · exact Or.inl h
      · obtain ⟨c6, hc6, hcl6⟩ := Cond.classLink_spec hown hl1 e.platform hpl
        obtain ⟨a8, b8, h1, h2, h3⟩ := hn1
        cases Option.some.inj (h1.symm.trans hcl)
        cases Option.some.inj (h2.symm.trans hc6)
        exact Or.inr ⟨hz0, _, hcl6, h3⟩)
  obtain ⟨g₀, hfr⟩ := X'.frames_eq
  have hcell9 : ((T.setVm vm').setFrames (.throwing q :: below)).heap[q]? = some ce := by
    show T.heap[q]? = some ce
    rw [hT]; exact hcell
  have hend : Ended ((T.setVm vm').setFrames (.throwing q :: below)) below (.threw q) := State.frames_setFrames _ (State.cur_lt_of_frames hfr)
  refine ⟨(T.setVm vm').setFrames (.throwing q :: below), ?_, .threw q, X'.here.running, hend, Or.inr ⟨q, rfl, E, ce, locs, hx _ hT (X'.ends _).1.alike, hcell9, hv, hcl, (X'.ends _).1, (X'.ends _).2.mono hc hs, hf⟩⟩
  rw [X.pushThrowing_eq]
  exact st
/-- a thing of a world lies in the heap -/
theorem vx_lt {D : va_G} {cl : List vw_C} {ws : va_W} {H1 : Heap} (h : va_P D cl ws H1) {k : Nat} {q : Nat × va_E} (hk : ws[k]? = some q) : q.1 < H1.size := (h k q hk).lt
end VXS
/-! ===== END ===== -/
/-! ===== BEGIN methods with a table of their own: called by a name, returning or throwing ===== -/
section VXH
/-! vx_backW, vx_callVX, vx_callSX, vx_callVW, vx_runVW, vx_runVX, vx_runSX, vx_ofWH follow the same proofs as their sisters above (Free/Laws.lean, Shelf42/LK1.lean); vx_outP calls Shelf42/NT130.lean (outThrough). -/
section
variable {l : Launch} {R : Room} {p : Program} {e : Env} {below : List Frame} {s : State} {sargs : Array Value} {y : MethodName} {len W9 : Nat}
theorem vx_backW {ws : List Cond} {rm : Room} {Pc : Array Value → State → Prop} {Qc : Array Value → State → Outcome → State → Prop} {XC : String → State → State → Prop} {mc ms : Nat} {free : Addr → Prop} {bytes : ByteArray} {maxL : Nat} {ret : Option FieldType} {hh : List (Nat × Nat × Nat × Nat)}
    (hM : vx_Met l y ws rm Pc Qc XC mc ms free) (hblind : FrameBlind Pc) (hrc : rm.cells = mc) (hrs : rm.slots = ms)
    (hframes : rm.frames + 1 ≤ R.frames) (hlocals : W9 + (maxL + 11) + rm.locals ≤ R.locals)
    (hws : ∀ w ∈ ws, ∀ a' U, s.WarmedH U.vm → w.before a' U = true) (hcode : Cond.codeWith y bytes maxL ret hh ∈ ws) (hinit : ∀ a' U, s.WarmedH U.vm → (Cond.initialized y.cls).before a' U = true) :
    vx_Back l R p e below s sargs y len W9 (PreOf R mc ms Pc) (PostOf Qc mc ms free) (vx_Post XC mc ms free) := by
  intro m meth c A g ig mk a X hg hsize hdg hW hn hp
  have h1 : (headSpec ws rm).pre.before a A.U = true := atoms_intro fun w hw => hws w hw _ _ X.warmed
  have h2 : (Cond.codeWith y bytes maxL ret hh).before a A.U = true := hws _ hcode _ _ X.warmed
  have h3 : (Cond.initialized y.cls).before a A.U = true := hinit _ _ X.warmed
  have h4 : A.cells + (headSpec ws rm).room.cells ≤ R.cells := by rw [show (headSpec ws rm).room.cells = mc from hrc]; exact hp.1
  have h5 : A.slots + (headSpec ws rm).room.slots ≤ R.slots := by rw [show (headSpec ws rm).room.slots = ms from hrs]; exact hp.2.1
  have hPc : Pc a (A.U.calling g mk a) := hblind _ _ _ _ hp.2.2
  obtain ⟨U, Ls, c0, s0⟩ := A
  dsimp only [Pt.U, Pt.locs, Pt.cells, Pt.slots] at h1 h2 h3 h4 h5 X hn hPc ⊢
  obtain ⟨m9, methY, cY, hn9, hmY, hcY, -, hlY, -⟩ := Cond.codeWith_spec h2
  cases Option.some.inj (hn9.symm.trans hn)
  obtain ⟨kY, hkY, -⟩ := className_of_methodNamed hn
  have hinitY : kY.init = .initialized := Cond.initialized_spec (findClass_of_methodNamed hn) hkY h3
  have h : At U g.method c below := by rw [hg]; exact X.here
  have hlocals9 : W9 + (maxL + 11) + (headSpec ws rm).room.locals ≤ R.locals := hlocals
  have happ : (headSpec ws rm).appliesLoose y e.platform (U.calling g mk a) = true :=
    Spec.appliesLoose_calling (g := g) h hdg hn hkY hinitY
      (X.room_calling (g := g) (R' := (headSpec ws rm).room) hsize hmY hcY hframes (by rw [hlY]; omega) h4 h5) h1
  obtain ⟨mid, hmid⟩ := h.above
  have hfr : (U.setTop g).frames = (.java g :: mid) ++ below := by rw [State.frames_setTop' g h.top, hmid]; rfl
  obtain ⟨o, s₂, hsteps, -, hend, hq⟩ := Steps.callFree hM p X.admits X.cas X.clock (acts := []) hfr happ hPc trivial
  have hq' : vx_Q Qc XC mc ms free a (U.calling g mk a) o s₂ := hq
  rw [State.frames_setTop' g h.top] at hend
  obtain ⟨g₀, hg0⟩ := Option.isSome_iff_exists.mp h.top
  obtain ⟨r, hr⟩ := State.topJava?_eq_some.mp hg0
  have hr' : (({ U with heap := s₂.heap, slotsUsed := s₂.slotsUsed } : State).setVm s₂.vm).frames = .java g₀ :: r := hr
  rcases hq' with ⟨hqc, L, hfe, hL⟩ | ⟨q, rfl, E, ce, L, hx, hce, hcv, hcl, hW₂, hsm, hL⟩
  · obtain ⟨⟨v, rfl⟩, hW₂, e2, q2, q3, q4, q5, q6⟩ := id hfe
    have e3 : s₂ = ({ (U.calling g mk a).setFrames s₂.frames with heap := s₂.heap, slotsUsed := s₂.slotsUsed } : State).setVm s₂.vm := by
      have : s₂ = ({ s₂ with vm := (U.calling g mk a).vm } : State).setVm s₂.vm := rfl
      rw [e2] at this
      exact this
    obtain ⟨c₂, i₂, len₂, hc₂, hd₂, hf₂⟩ := hend
    have hW' : U.WarmedH s₂.vm := hW₂
    have hcc : c₂ = c := by
      have h1 : s₂.code? g.method = U.code? g.method := by
        rw [State.code?_eq, State.code?_eq, hW'.alike.method?]
      exact Option.some.inj (hc₂.symm.trans (h1.trans h.code))
    subst hcc
    have hlen : len₂ = len := by rw [hdg] at hd₂; cases hd₂; rfl
    subst hlen
    have hs₂ : s₂ = (({ U with heap := s₂.heap, slotsUsed := s₂.slotsUsed } : State).setVm s₂.vm).setTop { g with pc := g.pc + len₂, stack := v.toList ++ g.stack } := by
      refine e3.trans ?_
      rw [hf₂, State.calling_eq h.top, State.setFrames_setFrames, State.setTop_of_frames _ hr', hr]
      rfl
    have hsame : U.sameButNew ({ U with heap := s₂.heap, slotsUsed := s₂.slotsUsed } : State) L mc ms := by
      refine ⟨?_, q2, q3, q4, q5, q6⟩
      obtain ⟨t, ht, -⟩ := State.frames_cons hr
      show ({ U with heap := s₂.heap, slotsUsed := s₂.slotsUsed } : State) = { U.setFrames U.frames with heap := s₂.heap, slotsUsed := s₂.slotsUsed }
      rw [State.setFrames_self ht]
    subst hg
    refine Or.inl ⟨v, ⟨(({ U with heap := s₂.heap, slotsUsed := s₂.slotsUsed } : State).setVm s₂.vm), Ls ++ L, c0 + mc, s0 + ms⟩,
      ⟨X.admits, X.cas, X.clock, X.frames, X.room, X.hears, X.method, X.code, (X.here.setHeapUsed s₂.heap s₂.slotsUsed).setVm hW'.alike, X.tail, State.WarmedH.trans X.warmed hW', X.limits, X.bytes, X.same.trans (hsame.setVm s.vm)⟩,
      ⟨g, mk, s₂, L, rfl, rfl, hqc, rfl, hL, rfl, rfl⟩, ?_⟩
    show Steps p.tables e below _ ((({ U with heap := s₂.heap, slotsUsed := s₂.slotsUsed } : State).setVm s₂.vm).setTop { g with pc := g.pc + len₂, stack := v.toList ++ g.stack })
    rw [← hs₂]
    exact hsteps
  · obtain ⟨e2, q2, q3, q4, q5, q6⟩ := id hsm
    have e3 : s₂ = ({ (U.calling g mk a).setFrames s₂.frames with heap := s₂.heap, slotsUsed := s₂.slotsUsed } : State).setVm s₂.vm := by
      have : s₂ = ({ s₂ with vm := (U.calling g mk a).vm } : State).setVm s₂.vm := rfl
      rw [e2] at this
      exact this
    have hf₂ : s₂.frames = .throwing q :: .java g :: U.frames.tail := hend
    have hW' : U.WarmedH s₂.vm := hW₂
    have hs₂ : s₂ = ((({ U with heap := s₂.heap, slotsUsed := s₂.slotsUsed } : State).setVm s₂.vm).setTop g).pushFrame (.throwing q) := by
      refine e3.trans ?_
      rw [hf₂, State.calling_eq h.top, State.setFrames_setFrames, State.pushFrame, State.frames_setTop _ hr', State.setTop_of_frames _ hr', State.setFrames_setFrames, hr]
      rfl
    have hsame : U.sameButNew ({ U with heap := s₂.heap, slotsUsed := s₂.slotsUsed } : State) L mc ms := by
      refine ⟨?_, q2, q3, q4, q5, q6⟩
      obtain ⟨t, ht, -⟩ := State.frames_cons hr
      show ({ U with heap := s₂.heap, slotsUsed := s₂.slotsUsed } : State) = { U.setFrames U.frames with heap := s₂.heap, slotsUsed := s₂.slotsUsed }
      rw [State.setFrames_self ht]
    subst hg
    refine Or.inr ⟨q, ⟨(({ U with heap := s₂.heap, slotsUsed := s₂.slotsUsed } : State).setVm s₂.vm), Ls ++ L, c0 + mc, s0 + ms⟩,
      ⟨X.admits, X.cas, X.clock, X.frames, X.room, X.hears, X.method, X.code, (X.here.setHeapUsed s₂.heap s₂.slotsUsed).setVm hW'.alike, X.tail, State.WarmedH.trans X.warmed hW', X.limits, X.bytes, X.same.trans (hsame.setVm s.vm)⟩,
      ⟨g, mk, s₂, L, E, ce, rfl, rfl, hx, hce, hcv, hcl, rfl, hL, rfl, rfl⟩, ?_⟩
    show Steps p.tables e below _ (((({ U with heap := s₂.heap, slotsUsed := s₂.slotsUsed } : State).setVm s₂.vm).setTop g).pushFrame (.throwing q))
    rw [← hs₂]
    exact hsteps
end
variable {p : Program} {l : Launch} {e : Env} {R : Room} {s : State} {m : MethodId} {args : Array Value} {below : List Frame} {meth : Method} {c : Code} {T : State} {H : Heap} {locs : List Loc} {cells slots : Nat}
theorem vx_callVX (X : Stand p l e R s m args below meth c T locs cells slots) (hexec : p.tables.exec = Jvm.exec) {own C : String} {index : Nat} {y : MethodName} {bytes : ByteArray} {maxL : Nat} {ret : Option FieldType} {hh : List (Nat × Nat × Nat × Nat)}
    (hown : s.vm.findClass own = some m.cls) (hlink : (Cond.methodLink own index y).before args s = true) (hinst : (Cond.instanceMethod y).before args s = true) (hsel : (Cond.selects C y y).before args s = true)
    (hcode : (Cond.codeWith y bytes maxL ret hh).before args s = true) (hy : y.cls ≠ "java/lang/invoke/MethodHandle" ∧ y.cls ≠ "java/lang/invoke/VarHandle")
    {W9 : Nat} {Pre : Pt → Array Value → Prop} {Post : Pt → Array Value → Option Value → Pt → Prop} {PostX : Pt → Array Value → Addr → Pt → Prop} (hK : vx_Back l R p e below s args y 3 W9 Pre Post PostX)
    {b : Addr} {cellB : Cell} (hcell : T.heap[b]? = some cellB) (hobj : cellB.vm.isStatics = false) (hcls : s.vm.findClass C = some cellB.cls)
    {g : JFrame} (hg : g.method = m) (hsize : g.locals.size = c.maxLocals) {argsL rest : List Value} (hlen : ∀ sig, parseMethodDescriptor y.desc = some sig → argsL.length = sig.parameters.length)
    (hstack : g.stack = argsL.reverse ++ .ref b :: rest) (hW : 2 * g.monitorRoom + (rest.map fun v => v.category).sum ≤ W9) (hdg : decode c.code g.pc = .ok (.invokevirtual index, 3))
    (hpre : ∀ vm₁, s.WarmedH vm₁ → Pre ⟨T.setVm vm₁, locs, cells, slots⟩ (Value.ref b :: argsL).toArray) :
    (∃ (v : Option Value) (vm₁ : Vm) (B : Pt), s.WarmedH vm₁ ∧ Stand p l e R s m args below meth c B.U B.locs B.cells B.slots ∧ Post ⟨T.setVm vm₁, locs, cells, slots⟩ (Value.ref b :: argsL).toArray v B ∧
      ∀ target, Steps p.tables e below (B.U.setTop { g with pc := g.pc + 3, stack := v.toList ++ rest }) target → Steps p.tables e below (T.setTop g) target) ∨
    (∃ (q : Addr) (vm₁ : Vm) (B : Pt), s.WarmedH vm₁ ∧ Stand p l e R s m args below meth c B.U B.locs B.cells B.slots ∧ PostX ⟨T.setVm vm₁, locs, cells, slots⟩ (Value.ref b :: argsL).toArray q B ∧
      Steps p.tables e below (T.setTop g) ((B.U.setTop { g with stack := rest }).pushFrame (.throwing q))) := by
  obtain ⟨mk, methM, hnamed, hmethM, hstM, habM⟩ := Cond.instanceMethod_spec hinst
  obtain ⟨m8, methM', cM, hn8, hmethM', -, -, -, -, -, -, hsigM⟩ := Cond.codeWith_spec hcode
  cases Option.some.inj (hn8.symm.trans hnamed)
  cases hmethM.symm.trans hmethM'
  obtain ⟨c2, r2, m2, q1, q2, q3, q4, kP, hkP, hkPi⟩ := Cond.selects_spec hsel
  cases hcls.symm.trans q1
  cases (State.methodFound?_of_named hnamed hy).symm.trans q2
  cases hnamed.symm.trans q3
  have hselP : selectMethod e.platform s.vm cellB.cls mk = .method mk := by rw [Launch.admits_selectMethod X.admits]; exact q4
  obtain ⟨vm₁, X₁, hstep₁⟩ := X.invokevirtual hexec hown hlink hnamed hmethM hstM hkP hkPi hy (a := b) (cell := cellB) hcell
    (fun z h => by rw [h] at hobj; cases hobj) hselP hmethM habM hkP hkPi (g := g) hg (argsL := argsL) (rest := rest) (hlen _ hsigM) hstack hdg
  rcases hK m meth c ⟨T.setVm vm₁, locs, cells, slots⟩ { g with stack := rest } (.invokevirtual index) mk (Value.ref b :: argsL).toArray X₁ hg hsize hdg hW (X₁.named hnamed) (hpre vm₁ X₁.warmed) with ⟨v, B, X', hpost, hsteps⟩ | ⟨q, B, X', hpost, hsteps⟩
  · exact Or.inl ⟨v, vm₁, B, X₁.warmed, X', hpost, fun target h => hstep₁ _ fun acts => by rw [doInvoke_state]; exact hsteps.trans h⟩
  · exact Or.inr ⟨q, vm₁, B, X₁.warmed, X', hpost, hstep₁ _ fun acts => by rw [doInvoke_state]; exact hsteps⟩
theorem vx_callSX (X : Stand p l e R s m args below meth c T locs cells slots) (hexec : p.tables.exec = Jvm.exec) {own : String} {index : Nat} {y : MethodName} {bytes : ByteArray} {maxL : Nat} {ret : Option FieldType} {hh : List (Nat × Nat × Nat × Nat)}
    (hown : s.vm.findClass own = some m.cls) (hlink : (Cond.methodLink own index y).before args s = true) (hstat : (Cond.static y).before args s = true) (hinit : (Cond.initialized y.cls).before args s = true)
    (hcode : (Cond.codeWith y bytes maxL ret hh).before args s = true) (hy : y.cls ≠ "java/lang/invoke/MethodHandle" ∧ y.cls ≠ "java/lang/invoke/VarHandle")
    {W9 : Nat} {Pre : Pt → Array Value → Prop} {Post : Pt → Array Value → Option Value → Pt → Prop} {PostX : Pt → Array Value → Addr → Pt → Prop} (hK : vx_Back l R p e below s args y 3 W9 Pre Post PostX)
    {g : JFrame} (hg : g.method = m) (hsize : g.locals.size = c.maxLocals) {argsL rest : List Value} (hlen : ∀ sig, parseMethodDescriptor y.desc = some sig → argsL.length = sig.parameters.length)
    (hstack : g.stack = argsL.reverse ++ rest) (hW : 2 * g.monitorRoom + (rest.map fun v => v.category).sum ≤ W9) (hdg : decode c.code g.pc = .ok (.invokestatic index, 3))
    (hpre : ∀ vm₁, s.WarmedH vm₁ → Pre ⟨T.setVm vm₁, locs, cells, slots⟩ argsL.toArray) :
    (∃ (v : Option Value) (vm₁ : Vm) (B : Pt), s.WarmedH vm₁ ∧ Stand p l e R s m args below meth c B.U B.locs B.cells B.slots ∧ Post ⟨T.setVm vm₁, locs, cells, slots⟩ argsL.toArray v B ∧
      ∀ target, Steps p.tables e below (B.U.setTop { g with pc := g.pc + 3, stack := v.toList ++ rest }) target → Steps p.tables e below (T.setTop g) target) ∨
    (∃ (q : Addr) (vm₁ : Vm) (B : Pt), s.WarmedH vm₁ ∧ Stand p l e R s m args below meth c B.U B.locs B.cells B.slots ∧ PostX ⟨T.setVm vm₁, locs, cells, slots⟩ argsL.toArray q B ∧
      Steps p.tables e below (T.setTop g) ((B.U.setTop { g with stack := rest }).pushFrame (.throwing q))) := by
  obtain ⟨mk, methM, cM, hnamed, hmethM, -, -, -, -, -, -, hsigM⟩ := Cond.codeWith_spec hcode
  have hstatic : methM.isStatic = true := Cond.static_spec hnamed hmethM hstat
  obtain ⟨kP, hkP, -⟩ := className_of_methodNamed hnamed
  have hinitP : kP.init = .initialized := Cond.initialized_spec (findClass_of_methodNamed hnamed) hkP hinit
  obtain ⟨vm₁, X₁, hstep₁⟩ := X.invokestatic hexec hown hlink hnamed hmethM hstatic hkP hinitP hy (g := g) hg (argsL := argsL) (rest := rest) (hlen _ hsigM) hstack hdg
  rcases hK m meth c ⟨T.setVm vm₁, locs, cells, slots⟩ { g with stack := rest } (.invokestatic index) mk argsL.toArray X₁ hg hsize hdg hW (X₁.named hnamed) (hpre vm₁ X₁.warmed) with ⟨v, B, X', hpost, hsteps⟩ | ⟨q, B, X', hpost, hsteps⟩
  · exact Or.inl ⟨v, vm₁, B, X₁.warmed, X', hpost, fun target h => hstep₁ _ fun acts => by rw [doInvoke_state]; exact hsteps.trans h⟩
  · exact Or.inr ⟨q, vm₁, B, X₁.warmed, X', hpost, hstep₁ _ fun acts => by rw [doInvoke_state]; exact hsteps⟩
theorem vx_callVW (X : Stand p l e R s m args below meth c T locs cells slots) (hexec : p.tables.exec = Jvm.exec) {own C : String} {index : Nat} {y : MethodName} {bytes : ByteArray} {maxL : Nat} {ret : Option FieldType} {hh : List (Nat × Nat × Nat × Nat)}
    (hown : s.vm.findClass own = some m.cls) (hlink : (Cond.methodLink own index y).before args s = true) (hinst : (Cond.instanceMethod y).before args s = true) (hsel : (Cond.selects C y y).before args s = true)
    (hcode : (Cond.codeWith y bytes maxL ret hh).before args s = true) (hy : y.cls ≠ "java/lang/invoke/MethodHandle" ∧ y.cls ≠ "java/lang/invoke/VarHandle")
    {W9 : Nat} {Pre : Pt → Array Value → Prop} {Post : Pt → Array Value → Option Value → Pt → Prop} (hK : Back l R p e below s args y 3 W9 Pre Post)
    {b : Addr} {cellB : Cell} (hcell : T.heap[b]? = some cellB) (hobj : cellB.vm.isStatics = false) (hcls : s.vm.findClass C = some cellB.cls)
    {g : JFrame} (hg : g.method = m) (hsize : g.locals.size = c.maxLocals) {argsL rest : List Value} (hlen : ∀ sig, parseMethodDescriptor y.desc = some sig → argsL.length = sig.parameters.length)
    (hstack : g.stack = argsL.reverse ++ .ref b :: rest) (hW : 2 * g.monitorRoom + (rest.map fun v => v.category).sum ≤ W9) (hdg : decode c.code g.pc = .ok (.invokevirtual index, 3))
    (hpre : ∀ vm₁, s.WarmedH vm₁ → Pre ⟨T.setVm vm₁, locs, cells, slots⟩ (Value.ref b :: argsL).toArray) :
    ∃ (v : Option Value) (vm₁ : Vm) (B : Pt), s.WarmedH vm₁ ∧ Stand p l e R s m args below meth c B.U B.locs B.cells B.slots ∧ Post ⟨T.setVm vm₁, locs, cells, slots⟩ (Value.ref b :: argsL).toArray v B ∧
      ∀ target, Steps p.tables e below (B.U.setTop { g with pc := g.pc + 3, stack := v.toList ++ rest }) target → Steps p.tables e below (T.setTop g) target := by
  obtain ⟨mk, methM, hnamed, hmethM, hstM, habM⟩ := Cond.instanceMethod_spec hinst
  obtain ⟨m8, methM', cM, hn8, hmethM', -, -, -, -, -, -, hsigM⟩ := Cond.codeWith_spec hcode
  cases Option.some.inj (hn8.symm.trans hnamed)
  cases hmethM.symm.trans hmethM'
  obtain ⟨c2, r2, m2, q1, q2, q3, q4, kP, hkP, hkPi⟩ := Cond.selects_spec hsel
  cases hcls.symm.trans q1
  cases (State.methodFound?_of_named hnamed hy).symm.trans q2
  cases hnamed.symm.trans q3
  have hselP : selectMethod e.platform s.vm cellB.cls mk = .method mk := by rw [Launch.admits_selectMethod X.admits]; exact q4
  obtain ⟨vm₁, X₁, hstep₁⟩ := X.invokevirtual hexec hown hlink hnamed hmethM hstM hkP hkPi hy (a := b) (cell := cellB) hcell
    (fun z h => by rw [h] at hobj; cases hobj) hselP hmethM habM hkP hkPi (g := g) hg (argsL := argsL) (rest := rest) (hlen _ hsigM) hstack hdg
  obtain ⟨v, B, X', hpost, hsteps⟩ := hK m meth c ⟨T.setVm vm₁, locs, cells, slots⟩ { g with stack := rest } (.invokevirtual index) mk (Value.ref b :: argsL).toArray X₁ hg hsize hdg hW (X₁.named hnamed) (hpre vm₁ X₁.warmed)
  exact ⟨v, vm₁, B, X₁.warmed, X', hpost, fun target h => hstep₁ _ fun acts => by rw [doInvoke_state]; exact hsteps.trans h⟩
abbrev vx_CVW (R : Room) (s : State) (args : Array Value) (own C : String) (index : Nat) (y : MethodName) (bytes : ByteArray) (maxL : Nat) (ret : Option FieldType) (hh : List (Nat × Nat × Nat × Nat)) (ws : List Cond) (rm : Room) (mc ms n : Nat) : Prop :=
  (rm.cells = mc ∧ rm.slots = ms ∧ rm.frames + 1 ≤ R.frames ∧ 8 + (maxL + 11) + rm.locals ≤ R.locals ∧ (∀ w ∈ ws, ∀ (a' : Array Value) (U : State), s.WarmedH U.vm → w.before a' U = true) ∧ Cond.codeWith y bytes maxL ret hh ∈ ws) ∧
  (Cond.codeWith y bytes maxL ret hh).before args s = true ∧ (Cond.initialized y.cls).before args s = true ∧ (y.cls ≠ "java/lang/invoke/MethodHandle" ∧ y.cls ≠ "java/lang/invoke/VarHandle") ∧
  (∀ sig, parseMethodDescriptor y.desc = some sig → n = sig.parameters.length) ∧ (Cond.methodLink own index y).before args s = true ∧ (Cond.instanceMethod y).before args s = true ∧ (Cond.selects C y y).before args s = true
theorem vx_cwVW {own C : String} {index maxL mc ms : Nat} {y : MethodName} {bytes : ByteArray} {ret : Option FieldType} {hh : List (Nat × Nat × Nat × Nat)} {Ts ws ws' : List Cond} {rm : Room} (n : Nat) (ht : ∀ w ∈ Ts, w.before args s = true) (hT : GoodIn Ts (wsV own index C y ws)) (hw : ws = Cond.codeWith y bytes maxL ret hh :: ws') (hrc : rm.cells = mc) (hrs : rm.slots = ms)
    (hd : y.cls = C ∧ y.cls ≠ "java/lang/invoke/MethodHandle" ∧ y.cls ≠ "java/lang/invoke/VarHandle" ∧ (parseMethodDescriptor y.desc).map (fun d => d.parameters.length) = some n) (hR : rm.frames + 1 ≤ R.frames ∧ 8 + (maxL + 11) + rm.locals ≤ R.locals) :
    vx_CVW R s args own C index y bytes maxL ret hh ws rm mc ms n := by
  obtain ⟨hC, hd⟩ := hd
  subst hC
  have ok : ∀ w ∈ wsV own index y.cls y ws, w.before args s = true := fun w h => ht w (hT w h).1
  have hG : GoodIn Ts ws := fun w h => hT w (by unfold wsV; exact List.mem_append_right _ h)
  have hc : Cond.codeWith y bytes maxL ret hh ∈ ws := by rw [hw]; exact List.mem_cons_self
  refine ⟨⟨hrc, hrs, hR.1, hR.2, pay_in ht hG, hc⟩, ht _ (hG _ hc).1, ok _ (by simp [wsV]), ⟨hd.1, hd.2.1⟩, fun sig h => ?_, ok _ (by simp [wsV]), ok _ (by simp [wsV]), ok _ (by simp [wsV])⟩
  have h2 := hd.2.2
  rw [h] at h2
  exact (Option.some.inj h2).symm
theorem vx_runVW {y : MethodName} {bytes cc : ByteArray} {maxL nL mc ms n index : Nat} {ret : Option FieldType} {hh : List (Nat × Nat × Nat × Nat)} {ws : List Cond} {rm : Room} {Pc : Array Value → State → Prop} {Qc : Array Value → State → Outcome → State → Prop} {free : Addr → Prop} {Ts : List Cond} {own C : String} {b : Addr} {As rest : List Value} {g : JFrame}
    (S : CallFix p m c cc nL s args Ts own) (hM : Met l y ws rm Pc Qc mc ms free) (cw : vx_CVW R s args own C index y bytes maxL ret hh ws rm mc ms n) (hp : PreV s H C b Pc As)
    (hg : g.method = m) (hn : As.length = n) (hsize : g.locals.size = nL) (hstack : g.stack = As.reverse ++ .ref b :: rest) (hW : 2 * g.monitorRoom + (rest.map fun v => v.category).sum ≤ 8) (hdg : decode cc g.pc = .ok (.invokevirtual index, 3)) (hf : cells + mc ≤ R.cells ∧ slots + ms ≤ R.slots) :
    va_Run p l e R s m args below meth c H locs cells slots mc ms g rest (Qc (Value.ref b :: As).toArray) free := by
  obtain ⟨⟨hrc, hrs, hfr, hlo, hws, hcw⟩, hcode, hini, hy, hlen, hl, hin, hse⟩ := cw
  have hK : Back l R p e below s args y 3 8 (PreOf R mc ms Pc) (PostOf Qc mc ms free) := va_backW (hh := hh) (bytes := bytes) (maxL := maxL) (ret := ret) hM hp.1 hrc hrs hfr hlo hws hcw (fun a' U hW => word_at hW (Or.inl (by first | rfl | simp [Cond.onTables, Cond.keeps, Cond.steady])) hini)
  obtain ⟨hx, hb, hml, ho, -⟩ := S
  obtain ⟨-, ⟨cellB, hcB, hoB, hclB⟩, hPc⟩ := hp
  intro T hT X
  obtain ⟨v, vm₁, ⟨U', l2, c2, s2⟩, hW₁, X', ⟨g', mk, t, L, e1, e2, hq, h1, hL, h2, h3⟩, st⟩ := vx_callVW X hx (C := C) (hh := hh) (bytes := bytes) (maxL := maxL) (ret := ret) ho hl hin hse hcode hy hK (by rw [hT]; exact hcB) hoB hclB hg (hsize.trans hml.symm) (argsL := As) (rest := rest) (fun sig h => hn.trans (hlen sig h)) hstack hW (by rw [hb]; exact hdg)
    (fun vm₁ hW₁ => ⟨hf.1, hf.2, hPc (T.setVm vm₁) hT hW₁⟩)
  dsimp only [Pt.U, Pt.locs, Pt.cells, Pt.slots] at X' e1 e2 h1 h2 h3 st
  subst h1; subst h2; subst h3
  exact ⟨v, (T.setVm vm₁).calling g' mk (Value.ref b :: As).toArray, t, U', L, hT, X', hL, e1, e2, hq, st⟩
section
variable {y : MethodName} {bytes cc : ByteArray} {maxL nL mc ms n index : Nat} {ret : Option FieldType} {ws : List Cond} {rm : Room} {Pc : Array Value → State → Prop} {Qc : Array Value → State → Outcome → State → Prop} {XC : String → State → State → Prop} {free : Addr → Prop} {Ts : List Cond} {own C : String} {b : Addr} {As rest : List Value} {g : JFrame}
theorem vx_runVX {hh : List (Nat × Nat × Nat × Nat)} (S : CallFix p m c cc nL s args Ts own) (hM : vx_Met l y ws rm Pc Qc XC mc ms free) (cw : vx_CVW R s args own C index y bytes maxL ret hh ws rm mc ms n) (hp : PreV s H C b Pc As)
    (hg : g.method = m) (hn : As.length = n) (hsize : g.locals.size = nL) (hstack : g.stack = As.reverse ++ .ref b :: rest) (hW : 2 * g.monitorRoom + (rest.map fun v => v.category).sum ≤ 8) (hdg : decode cc g.pc = .ok (.invokevirtual index, 3)) (hf : cells + mc ≤ R.cells ∧ slots + ms ≤ R.slots) :
    vx_Run p l e R s m args below meth c H locs cells slots mc ms g rest (Qc (Value.ref b :: As).toArray) XC free := by
  obtain ⟨⟨hrc, hrs, hfr, hlo, hws, hcw⟩, hcode, hini, hy, hlen, hl, hin, hse⟩ := cw
  have hK : vx_Back l R p e below s args y 3 8 (PreOf R mc ms Pc) (PostOf Qc mc ms free) (vx_Post XC mc ms free) := vx_backW (hh := hh) (bytes := bytes) (maxL := maxL) (ret := ret) hM hp.1 hrc hrs hfr hlo hws hcw (fun a' U hW => word_at hW (Or.inl (by first | rfl | simp [Cond.onTables, Cond.keeps, Cond.steady])) hini)
  obtain ⟨hx, hb, hml, ho, -⟩ := S
  obtain ⟨-, ⟨cellB, hcB, hoB, hclB⟩, hPc⟩ := hp
  intro T hT X
  rcases vx_callVX X hx (C := C) (hh := hh) (bytes := bytes) (maxL := maxL) (ret := ret) ho hl hin hse hcode hy hK (by rw [hT]; exact hcB) hoB hclB hg (hsize.trans hml.symm) (argsL := As) (rest := rest) (fun sig h => hn.trans (hlen sig h)) hstack hW (by rw [hb]; exact hdg)
    (fun vm₁ hW₁ => ⟨hf.1, hf.2, hPc (T.setVm vm₁) hT hW₁⟩) with ⟨v, vm₁, ⟨U', l2, c2, s2⟩, hW₁, X', ⟨g', mk, t, L, e1, e2, hq, h1, hL, h2, h3⟩, st⟩ | ⟨q, vm₁, ⟨U', l2, c2, s2⟩, hW₁, X', ⟨g', mk, t, L, E, ce, e1, e2, hq, hce, hcv, hcl, h1, hL, h2, h3⟩, st⟩
  · dsimp only [Pt.U, Pt.locs, Pt.cells, Pt.slots] at X' e1 e2 h1 h2 h3 st
    subst h1; subst h2; subst h3
    exact Or.inl ⟨v, (T.setVm vm₁).calling g' mk (Value.ref b :: As).toArray, t, U', L, hT, X', hL, e1, e2, hq, st⟩
  · dsimp only [Pt.U, Pt.locs, Pt.cells, Pt.slots] at X' e1 e2 h1 h2 h3 st hcl
    subst h1; subst h2; subst h3
    exact Or.inr ⟨q, (T.setVm vm₁).calling g' mk (Value.ref b :: As).toArray, t, U', L, E, ce, hT, X', hL, e1, e2, hq, hce, hcv, vx_cls hW₁ hcl, st⟩
theorem vx_runSX {hh : List (Nat × Nat × Nat × Nat)} (S : CallFix p m c cc nL s args Ts own) (hM : vx_Met l y ws rm Pc Qc XC mc ms free) (cw : vx_CSW R s args own index y bytes maxL ret hh ws rm mc ms n) (hp : PreS s H Pc As)
    (hg : g.method = m) (hn : As.length = n) (hsize : g.locals.size = nL) (hstack : g.stack = As.reverse ++ rest) (hW : 2 * g.monitorRoom + (rest.map fun v => v.category).sum ≤ 8) (hdg : decode cc g.pc = .ok (.invokestatic index, 3)) (hf : cells + mc ≤ R.cells ∧ slots + ms ≤ R.slots) :
    vx_Run p l e R s m args below meth c H locs cells slots mc ms g rest (Qc As.toArray) XC free := by
  obtain ⟨⟨hrc, hrs, hfr, hlo, hws, hcw⟩, hcode, hini, hy, hlen, hl, hstt⟩ := cw
  have hK : vx_Back l R p e below s args y 3 8 (PreOf R mc ms Pc) (PostOf Qc mc ms free) (vx_Post XC mc ms free) := vx_backW (hh := hh) (bytes := bytes) (maxL := maxL) (ret := ret) hM hp.1 hrc hrs hfr hlo hws hcw (fun a' U hW => word_at hW (Or.inl (by first | rfl | simp [Cond.onTables, Cond.keeps, Cond.steady])) hini)
  obtain ⟨hx, hb, hml, ho, -⟩ := S
  intro T hT X
  rcases vx_callSX X hx (hh := hh) (bytes := bytes) (maxL := maxL) (ret := ret) ho hl hstt hini hcode hy hK hg (hsize.trans hml.symm) (argsL := As) (rest := rest) (fun sig h => hn.trans (hlen sig h)) hstack hW (by rw [hb]; exact hdg)
    (fun vm₁ hW₁ => ⟨hf.1, hf.2, hp.2 (T.setVm vm₁) hT hW₁⟩) with ⟨v, vm₁, ⟨U', l2, c2, s2⟩, hW₁, X', ⟨g', mk, t, L, e1, e2, hq, h1, hL, h2, h3⟩, st⟩ | ⟨q, vm₁, ⟨U', l2, c2, s2⟩, hW₁, X', ⟨g', mk, t, L, E, ce, e1, e2, hq, hce, hcv, hcl, h1, hL, h2, h3⟩, st⟩
  · dsimp only [Pt.U, Pt.locs, Pt.cells, Pt.slots] at X' e1 e2 h1 h2 h3 st
    subst h1; subst h2; subst h3
    exact Or.inl ⟨v, (T.setVm vm₁).calling g' mk As.toArray, t, U', L, hT, X', hL, e1, e2, hq, st⟩
  · dsimp only [Pt.U, Pt.locs, Pt.cells, Pt.slots] at X' e1 e2 h1 h2 h3 st hcl
    subst h1; subst h2; subst h3
    exact Or.inr ⟨q, (T.setVm vm₁).calling g' mk As.toArray, t, U', L, E, ce, hT, X', hL, e1, e2, hq, hce, hcv, vx_cls hW₁ hcl, st⟩
end
end VXH
theorem vx_ofWH {l : Launch} {y : MethodName} {ws ws' : List Cond} {rm : Room} {Pc : Array Value → State → Prop} {Qc : Array Value → State → Outcome → State → Prop} {XC : String → State → State → Prop} {mc ms : Nat} {free : Addr → Prop} {cc : ByteArray} {maxL : Nat} {ret : Option FieldType} {hh : List (Nat × Nat × Nat × Nat)}
    (hy : plainName y.cls = true) (hw : ws = Cond.codeWith y cc maxL ret hh :: ws')
    (body : ∀ p e s m args below meth c s₁, BodyLoose p l y (headSpec ws rm) cc maxL ret e s m args below meth c s₁ → c.maxLocals = maxL → Pc args s →
      W p l e (headSpec ws rm).room s m args below meth c s.heap [] 0 0 (vx_MQ below Qc XC args s mc ms free) (entryFrame m args maxL)) : vx_Met l y ws rm Pc Qc XC mc ms free := by
  refine MetFree.of_bodyS (code := cc) (maxLocals := maxL) (ret := ret) hy ?_ ?_
  · intro args s m h hn
    obtain ⟨m9, meth, c, hn9, h1, h2, h3, h4, -, h5, h6, -⟩ := Cond.codeWith_spec (atoms_spec (ws := ws) h _ (by rw [hw]; exact List.mem_cons_self))
    cases hn.symm.trans hn9
    exact ⟨meth, c, h1, h2, h3, h4, h5, h6⟩
  · intro p e s m args below meth c s₁ B hml hP _
    have hh0 : s₁.heap = s.heap := by rw [B.state]; rfl
    obtain ⟨t, a1, o, b1, b2, b3⟩ := body p e s m args below meth c s₁ B hml hP s₁ hh0 (Stand.of_body B)
    exact ⟨t, o, a1, b1, b2, b3⟩
/-! ===== END ===== -/
/-! ===== BEGIN what the machine throws by itself, no traces kept ===== -/
section VXM
set_option maxHeartbeats 1000000 in
/-- the machine throws cls with the message text, no traces kept: from its note over the frame g to 'throwing' over the same frame (follows the proofs of Stand.vmThrowsMessage, Shelf/KitTracedVmS.lean, and Stand.throwsMessageColdBareV, StandMessageColdV.lean, without the step out of the frame) -/
theorem vx_vmAt {p : Program} {l : Launch} {e : Env} {R : Room} {s : State} {m₀ : MethodId} {args : Array Value} {below : List Frame} {meth : Method} {c : Code} {W : State} {locs : List Loc} {cells slots : Nat}
    (X : Stand p l e R s m₀ args below meth c W locs cells slots) (hexec : p.tables.exec = Jvm.exec) (htr : e.platform.stackTraces = false) {cls : String} {names : List String} {text : String}
    (hcls : Bundle.fit cls = true) (hnames : ∀ n ∈ names, Bundle.fit n = true) (hsoe : (cls == "java/lang/StackOverflowError") = false) (hoom : (cls == "java/lang/OutOfMemoryError") = false)
    (h : ∀ a ∈ Bundle.messageArmAtoms cls names, a.before args s = true)
    (hlocs : ∀ x ∈ locs, ∀ cell, s.heap[x.base]? = some cell → cell.vm.isStatics = false)
    (htext : (text == notModelled) = false) (hlimit : ¬ (stringBytes (stringToUtf16 text)).size > e.platform.arrayLengthLimit) (hheap : ¬ (stringBytes (stringToUtf16 text)).size * componentBytes .byte > e.platform.maxHeapBytes)
    {g : JFrame} (hg : g.method = m₀) (hsize : g.locals.size = c.maxLocals)
    (hRframes : names.length + 4 < R.frames) (hRlocals : 2 * g.monitorRoom + (g.stack.map fun v => v.category).sum + 10240 ≤ R.locals) (hshort : 13 * names.length + 55 ≤ 10240)
    (hRcells : cells + 3 ≤ R.cells) (hRslots : slots + ((stringBytes (stringToUtf16 text)).size + 4 + 6) ≤ R.slots) (hlocks : meth.locks = false) :
    ∃ (S : State) (q : Addr) (ce : Cell), (∀ target, Steps p.tables e below ((S.setTop g).pushFrame (.throwing q)) target → Steps p.tables e below ((W.setTop g).pushFrame (.throwNew cls (some text) none)) target) ∧
      Stand p l e R s m₀ args below meth c S locs (cells + 3) (slots + ((stringBytes (stringToUtf16 text)).size + 4 + 6)) ∧ S.heap[q]? = some ce ∧ s.vm.findClass cls = some ce.cls ∧ ce.vm = .none := by
  have howns : e.platform.frameOwnsMonitors = true := by rw [X.admits.platform]
  have hfin : e.platform.finalization = false := by rw [X.admits.platform]
  have hpl : e.platform.magicAccessors = ({} : Platform).magicAccessors := by rw [X.admits.platform]
  have a : ∀ x, x ∈ Bundle.messageArmAtoms cls names → x.holds args s none s [] = true := fun x hx => h x hx
  obtain ⟨T, Z0, L, -, Y⟩ := ThrowableC.of_atoms (args := args) howns hfin hpl (fun x hx => h x (by simp [Bundle.messageArmAtoms, hx]))
  obtain ⟨Z, M, LZ, LM, hnZ⟩ := Init0T.ofS_atoms (args := args) hpl L Y (fun x hx => h x (by simp [Bundle.messageArmAtoms, hx]))
  obtain ⟨P1, Ps, hlen, L1, hL, hP1m, hlink1, hlink⟩ := Bundle.chainS (args := args) hpl hnZ names cls hcls hnames (fun x hx => h x (by simp [Bundle.messageArmAtoms, hx]))
  obtain ⟨Zs, LZs, hn4, hfitv, hfitc⟩ := StringT.of_atoms (args := args) (fun x hx => h x (by simp [Bundle.messageArmAtoms, hx]))
  have hfound : s.vm.findClass cls = some P1.m.cls := findClass_of_methodNamed hP1m
  obtain ⟨c1, kX, hc1, hk, hord, -, -, hn6⟩ := Cond.instantiable_spec (a (.instantiable cls 6) (by simp [Bundle.messageArmAtoms]))
  cases Option.some.inj (hc1.symm.trans hfound)
  have hinit := Cond.initialized_spec hfound hk (a (.initialized cls) (by simp [Bundle.messageArmAtoms]))
  have hctor : kX.findMethod "<init>" "(Ljava/lang/String;)V" = some P1.m.idx := findMethod_of_methodNamed hP1m hk
  have hsel0 : selectMethod e.platform s.vm P1.m.cls T.fill0 = .method T.fill0 := by
    obtain ⟨c2, r2, m2, q1, q2, q3, q4, -⟩ := Cond.selects_spec (a (.selects cls Bundle.tFill0 Bundle.tFill0) (by simp [Bundle.messageArmAtoms]))
    cases Option.some.inj (q1.symm.trans hfound)
    cases Option.some.inj (q2.symm.trans (State.methodFound?_of_named Y.fill0 (by decide)))
    cases Option.some.inj (q3.symm.trans Y.fill0)
    rw [Launch.admits_selectMethod X.admits]; exact q4
  have hselF : selectMethod e.platform s.vm P1.m.cls T.fill = .method T.fill := by
    obtain ⟨c2, r2, m2, q1, q2, q3, q4, -⟩ := Cond.selects_spec (a (.selects cls Bundle.tFill Bundle.tFill) (by simp [Bundle.messageArmAtoms]))
    cases Option.some.inj (q1.symm.trans hfound)
    cases Option.some.inj (q2.symm.trans (State.methodFound?_of_named Y.fill (by decide)))
    cases Option.some.inj (q3.symm.trans Y.fill)
    rw [Launch.admits_selectMethod X.admits]; exact q4
  obtain ⟨cellS0, hcS0, hiss⟩ := Y.statics
  obtain ⟨u0, hu0⟩ := Cond.staticRefV Y.unassigned L.unassignedStatic L.statics hcS0 hiss (a (.isRef (.static Bundle.tN "UNASSIGNED_STACK" Bundle.steD)) (by simp [Bundle.messageArmAtoms]))
  obtain ⟨sen, hsen⟩ := Cond.staticRefV Y.sentinel L.sentinelStatic L.statics hcS0 hiss (a (.isRef (.static Bundle.tN "SUPPRESSED_SENTINEL" Bundle.listD)) (by simp [Bundle.messageArmAtoms]))
  obtain ⟨ci198, i198, fB, hk198, hg198, ha198, hsB, -, hnB, htB, hffB⟩ := Cond.ownField (t := .object "java/lang/Object") Y.found L.cls (by decide +kernel) (a (.fieldLink Bundle.tN 198 Bundle.tN "backtrace" "Ljava/lang/Object;") (by simp [Bundle.messageArmAtoms])) (a (.lays Bundle.tN Bundle.tN "backtrace" "Ljava/lang/Object;") (by simp [Bundle.messageArmAtoms])) e.platform hpl
  obtain ⟨cellS, hcS', heS, -, hkeep⟩ := X.same.2.2.2.2.2 T.aS cellS0 hcS0
  have hcellS : W.heap[T.aS]? = some cellS := hcS'
  have hout' : ∀ i, (⟨T.aS, i⟩ : Loc) ∉ locs := fun i hmem => by
    have := hlocs _ hmem cellS0 hcS0
    rw [hiss] at this; cases this
  have hknownS : cellS.vm ≠ .unknown := by
    rw [heS]; intro hu
    rw [show cellS0.vm = .unknown from hu] at hiss
    cases hiss
  have hvU : cellS.slots[T.fUnassigned.slot]? = some u0.v := by rw [hkeep _ (hout' _)]; exact hu0
  have hvSen : cellS.slots[T.fSentinel.slot]? = some sen.v := by rw [hkeep _ (hout' _)]; exact hsen
  obtain ⟨iM, hffM⟩ := Y.msg
  obtain ⟨tyC, dC, hdC, hdnC⟩ := Cond.laysAt hfound hk Y.cause (a (.lays cls Bundle.tN "cause" "Ljava/lang/Throwable;") (by simp [Bundle.messageArmAtoms]))
  obtain ⟨tyS, dS, hdS, hdnS⟩ := Cond.laysAt hfound hk Y.stack (a (.lays cls Bundle.tN "stackTrace" Bundle.steD) (by simp [Bundle.messageArmAtoms]))
  obtain ⟨tyP, dP, hdP, hdnP⟩ := Cond.laysAt hfound hk Y.supp (a (.lays cls Bundle.tN "suppressedExceptions" Bundle.listD) (by simp [Bundle.messageArmAtoms]))
  obtain ⟨tyM, dM, hdM, hdnM⟩ := Cond.laysAt hfound hk hffM (a (.lays cls Bundle.tN "detailMessage" "Ljava/lang/String;") (by simp [Bundle.messageArmAtoms]))
  obtain ⟨tyB, dB, hdB, hdnB⟩ := Cond.laysAt hfound hk hffB (a (.lays cls Bundle.tN "backtrace" "Ljava/lang/Object;") (by simp [Bundle.messageArmAtoms]))
  have bC := Cond.laysApart hdB hdC hdnB hdnC (by rw [hnB, Y.causeName]; decide)
  have bS := Cond.laysApart hdB hdS hdnB hdnS (by rw [hnB, Y.stackName]; decide)
  have bP := Cond.laysApart hdB hdP hdnB hdnP (by rw [hnB, Y.suppName]; decide)
  have hbk : ((preparedCellV T.toThrowableT (freshCell P1.m.cls kX) (W.heap.size + 2) u0 sen).withEntry W.cur).slots[fB.slot]? = some .null := by
    have := fresh_default (c := P1.m.cls) tyB
    rw [htB] at this
    simpa [preparedCellV, Cell.setSlot, Cell.withEntry, Array.getElem?_setIfInBounds, bC, bS, bP, bC.symm, bS.symm, bP.symm, defaultValue] using this
  have tkC := Takes.of_laid (v := .ref (W.heap.size + 2)) hk hord tyC (by rw [Y.causeType]; rfl)
  have tkS := Takes.of_laid (v := u0.v) hk hord tyS (by rw [Y.stackType]; exact fits_refV_array _ u0)
  have tkP := Takes.of_laid (v := sen.v) hk hord tyP (by rw [Y.suppType]; exact fits_refV_object _ sen)
  have tkM := Takes.of_laid (v := .ref (W.heap.size + 1)) hk hord tyM (by rw [Y.msgType]; rfl)
  have hskip : SkipFacts T e.platform s (fun u => u) u0 ((preparedCellV T.toThrowableT (freshCell P1.m.cls kX) (W.heap.size + 2) u0 sen).withEntry W.cur) := ⟨{ ci198 := ci198, i198 := i198, fBack := fB }, ⟨hk198, hg198, ha198, hsB⟩, hbk, fun _ _ => rfl⟩
  have h0 : At W g.method c below := by rw [hg]; exact X.here
  obtain ⟨hbeyond, hfreeW⟩ := X.vmMayThrow hsize (.throwNew cls (some text) none) (fun f hf => by cases hf) rfl hRlocals
  have hfr' : W.frames.length + Ps.length + 4 < (e.platform.stackLimits W.me).1 := by have := X.framesAbove hRframes; omega
  have hwd' : (stackUse (.java g :: W.frames.tail)).2 + 13 * Ps.length + 55 ≤ (e.platform.stackLimits W.me).2 := by have := X.stackAbove hsize (K := 13 * Ps.length + 55) (by omega); omega
  have hslots : W.slotsUsed + (stringBytes (stringToUtf16 text)).size + Zs.kS.instanceTypes.size + kX.instanceTypes.size ≤ e.platform.maxSlots := by
    have := X.slotsAbove hRslots
    rw [hn4, hn6]
    omega
  obtain ⟨vm', hW', st⟩ := Steps.vmThrowsMessageColdByV p (s₀ := s) (S := W) (g := g) h0 hexec T L Z LZ M LM X.warmed (t := W.cur) rfl Zs LZs P1 L1 Ps hL hlink1 hlink hsoe hoom hfound hk hinit hord hctor
    (Launch.admits_hotImplicitExceptions X.admits) hbeyond hfreeW htext hlimit hheap (X.cellsAbove hRcells) hslots (hfitv _) (hfitc _)
    (Nn := fun u => u) heapOnly_id (fun _ _ => rfl) (fun _ => rfl) (fun u x y => setCell_twice _ _ _ _) (fun _ => Nat.le_refl _) (cN := ((preparedCellV T.toThrowableT (freshCell P1.m.cls kX) (W.heap.size + 2) u0 sen).withEntry W.cur))
    hsel0 hcellS hknownS hvU tkS (fun _ hu => hu) (fun _ hu => hu) rfl rfl rfl (by simp [preparedCellV, Cell.setSlot, Cell.withEntry]) hskip (fun _ _ hA hW _ hroom _ hrest => L.nativeOff p htr hA hW hroom hrest) hselF hvSen tkC tkP tkM Y.objLocals rfl hfr' hwd'
  rw [plainBareV_eq T.toThrowableT (W.heap.size + 2) u0 sen (.ref (W.heap.size + 1)) W.cur rfl rfl] at st
  obtain ⟨-, -, w3, w4, -, -, -⟩ := withThrown_facts e.platform W Zs text P1.m.cls kX
  have X3 := ((X.pushed (bytesOf Zs.cB (stringToUtf16 text))).pushed (stringAt Zs.cS Zs.kS Zs.fv Zs.fc (stringToUtf16 text) W.heap.size)).pushed (freshCell P1.m.cls kX)
  rw [← withString_eq] at X3
  have X4 := X3.noted hW'
  have ha : (W.heap.size + 2) < ((withThrown W Zs text P1.m.cls kX).setVm vm').heap.size := by show _ < (withThrown W Zs text P1.m.cls kX).heap.size; rw [w3]; omega
  have hcell : ((withThrown W Zs text P1.m.cls kX).setVm vm').heap[(W.heap.size + 2)]? = some (freshCell P1.m.cls kX) := w4
  have X5 := ((((X4.stored hcell T.fCause.slot (.ref (W.heap.size + 2))).storedAgain ha T.fStack.slot u0.v).storedAgain ha T.fSupp.slot sen.v).storedAgain ha T.fStack.slot u0.v).storedAgain ha T.fMsg.slot (.ref (W.heap.size + 1))
  obtain ⟨g₁, hfrM⟩ := X5.frames_eq
  have hU : ((((withThrown W Zs text P1.m.cls kX).setVm vm').setCell (W.heap.size + 2) (plainBareV T.toThrowableT (freshCell P1.m.cls kX) (W.heap.size + 2) u0 sen (.ref (W.heap.size + 1)))).setTop g).pushFrame (.throwing (W.heap.size + 2)) = (((withThrown W Zs text P1.m.cls kX).setVm vm').setCell (W.heap.size + 2) (plainBareV T.toThrowableT (freshCell P1.m.cls kX) (W.heap.size + 2) u0 sen (.ref (W.heap.size + 1)))).setFrames (.throwing (W.heap.size + 2) :: .java g :: below) := by
    rw [State.pushFrame, State.frames_setTop _ hfrM, State.setTop_of_frames _ hfrM, State.setFrames_setFrames]
  have b1 : (bytesOf Zs.cB (stringToUtf16 text)).slots.size = (stringBytes (stringToUtf16 text)).size := by
    rw [(Cell.writeAll_facts _ _).2.2]; simp [bytes0]
  have b2 : (stringAt Zs.cS Zs.kS Zs.fv Zs.fc (stringToUtf16 text) W.heap.size).slots.size = 4 := by simp [string0, Cell.setSlot, hn4]
  have b3 : (freshCell P1.m.cls kX).slots.size = 6 := by simp [hn6]
  rw [b1, b2, b3] at X5
  have e9 : slots + (stringBytes (stringToUtf16 text)).size + 4 + 6 = slots + ((stringBytes (stringToUtf16 text)).size + 4 + 6) := by omega
  rw [e9] at X5
  simp only [List.append_assoc, List.cons_append, List.nil_append] at X5
  refine ⟨((withThrown W Zs text P1.m.cls kX).setVm vm').setCell (W.heap.size + 2) (plainBareV T.toThrowableT (freshCell P1.m.cls kX) (W.heap.size + 2) u0 sen (.ref (W.heap.size + 1))), W.heap.size + 2, _, fun target ht => st _ (by rw [X.tail, ← hU]; exact ht),
    X5.forget (fun y hy => ?_), heapAt_setCell_self _ ha, hfound, rfl⟩
  simp only [List.mem_cons, List.not_mem_nil, or_false] at hy
  have hge : s.heap.size ≤ W.heap.size := X.same.2.1
  rcases hy with rfl | rfl | rfl | rfl | rfl <;> exact Nat.le_trans hge (Nat.le_add_right _ 2)
set_option maxHeartbeats 1000000 in
/-- the machine throws NullPointerException, no traces kept: from its note over the frame g to 'throwing' over the same frame (follows the proof of Stand.vmThrowsNpe, Shelf42/KT2.lean; throwsNpeColdBareVAt, Shelf42/NT91.lean, called) -/
theorem vx_npeAt {p : Program} {l : Launch} {e : Env} {R : Room} {s : State} {m₀ : MethodId} {args : Array Value} {below : List Frame} {meth : Method} {c : Code} {W : State} {locs : List Loc} {cells slots : Nat}
    (X : Stand p l e R s m₀ args below meth c W locs cells slots) (hexec : p.tables.exec = Jvm.exec) (htr : e.platform.stackTraces = false) {n : Nat}
    (h : ∀ a ∈ Bundle.npeArmAtoms n, a.before args s = true)
    (hlocs : ∀ x ∈ locs, ∀ cell, s.heap[x.base]? = some cell → cell.vm.isStatics = false)
    {g : JFrame} (hg : g.method = m₀) (hsize : g.locals.size = c.maxLocals)
    (hRframes : 7 < R.frames) (hRlocals : 2 * g.monitorRoom + (g.stack.map fun v => v.category).sum + 10240 ≤ R.locals)
    (hRcells : cells + 1 ≤ R.cells) (hRslots : slots + n ≤ R.slots) (hlocks : meth.locks = false) :
    ∃ (S : State) (q : Addr) (ce : Cell), (∀ target, Steps p.tables e below ((S.setTop g).pushFrame (.throwing q)) target → Steps p.tables e below ((W.setTop g).pushFrame (.throwNew "java/lang/NullPointerException" none none)) target) ∧
      Stand p l e R s m₀ args below meth c S locs (cells + 1) (slots + n) ∧ S.heap[q]? = some ce ∧ s.vm.findClass "java/lang/NullPointerException" = some ce.cls ∧ ce.vm = .none := by
  have howns : e.platform.frameOwnsMonitors = true := by rw [X.admits.platform]
  have hfin : e.platform.finalization = false := by rw [X.admits.platform]
  have hpl : e.platform.magicAccessors = ({} : Platform).magicAccessors := by rw [X.admits.platform]
  have hpl2 : e.platform.arrayCloneIsPublic = true := by rw [X.admits.platform]
  have a' : ∀ x, x ∈ Bundle.npeArmAtoms n → x.holds args s none s [] = true := fun x hx => h x hx
  obtain ⟨T, Z, L, LZ, Y⟩ := ThrowableC.of_atoms (args := args) howns hfin hpl (fun x hx => h x (by simp [Bundle.npeArmAtoms, hx]))
  obtain ⟨N, LN, hcN, hnNF, hordN, hffS⟩ := NpeC.of_atoms (args := args) hpl hpl2 L Y (fun x hx => h x (by simp [Bundle.npeArmAtoms, hx]))
  obtain ⟨P1, L1, hP1m, hP1s⟩ := PassC.of_atoms (args := args) (s := s) hpl (X := Bundle.nN) (Y := Bundle.rN) (by decide) (by decide) LibCode.NullPointerException.Init0.at_0 LibCode.NullPointerException.Init0.at_1 LibCode.NullPointerException.Init0.at_4 (fun x hx => h x (by simp [Bundle.npeArmAtoms, hx]))
  obtain ⟨PR, LR, hPRm, hPRs⟩ := PassC.of_atoms (args := args) (s := s) hpl (X := Bundle.rN) (Y := Bundle.eN) (by decide) (by decide) LibCode.RuntimeException.Init0.at_0 LibCode.RuntimeException.Init0.at_1 LibCode.RuntimeException.Init0.at_4 (fun x hx => h x (by simp [Bundle.npeArmAtoms, hx]))
  obtain ⟨PE, LEx, hPEm, hPEs⟩ := PassC.of_atoms (args := args) (s := s) hpl (X := Bundle.eN) (Y := Bundle.tN) (by decide) (by decide) LibCode.Exception.Init0.at_0 LibCode.Exception.Init0.at_1 LibCode.Exception.Init0.at_4 (fun x hx => h x (by simp [Bundle.npeArmAtoms, hx]))
  have hfound : s.vm.findClass Bundle.nN = some P1.m.cls := findClass_of_methodNamed hP1m
  have ecls : N.cN = P1.m.cls := Option.some.inj (hcN.symm.trans hfound)
  have hk : s.vm.classes[P1.m.cls]? = some N.kN := by rw [← ecls]; exact LN.cls
  have hinit := Cond.initialized_spec hfound hk (a' (.initialized Bundle.nN) (by simp [Bundle.npeArmAtoms]))
  have hctor : N.kN.findMethod "<init>" "()V" = some P1.m.idx := findMethod_of_methodNamed hP1m hk
  obtain ⟨c1, k1, hc1, hk1, -, -, -, hn⟩ := Cond.instantiable_spec (a' (.instantiable Bundle.nN n) (by simp [Bundle.npeArmAtoms]))
  cases Option.some.inj (hc1.symm.trans hfound)
  cases Option.some.inj (hk1.symm.trans hk)
  have hfsz : (freshCell P1.m.cls N.kN).slots.size = n := by simp [hn]
  have hlink1 : P1.sup = PR.m := Option.some.inj (hP1s.symm.trans hPRm)
  have hlinkR : PR.sup = PE.m := Option.some.inj (hPRs.symm.trans hPEm)
  have hlinkE : PE.sup = Z.m T.toThrowableT := Option.some.inj (hPEs.symm.trans Y.init0)
  have hLs : ∀ P, P ∈ [PR, PE] → P.Links0 e.platform s := fun P hP => by
    simp only [List.mem_cons, List.not_mem_nil, or_false] at hP
    rcases hP with rfl | rfl
    · exact LR
    · exact LEx
  have hsel0 : selectMethod e.platform s.vm P1.m.cls T.fill0 = .method T.fill0 := by
    obtain ⟨c2, r2, m2, q1, q2, q3, q4, -⟩ := Cond.selects_spec (a' (.selects Bundle.nN Bundle.tFill0 Bundle.tFill0) (by simp [Bundle.npeArmAtoms]))
    cases Option.some.inj (q1.symm.trans hfound)
    cases Option.some.inj (q2.symm.trans (State.methodFound?_of_named Y.fill0 (by decide)))
    cases Option.some.inj (q3.symm.trans Y.fill0)
    rw [Launch.admits_selectMethod X.admits]; exact q4
  have hselF : selectMethod e.platform s.vm P1.m.cls T.fill = .method N.fill := by
    obtain ⟨c2, r2, m2, q1, q2, q3, q4, -⟩ := Cond.selects_spec (a' (.selects Bundle.nN Bundle.tFill Bundle.nFill) (by simp [Bundle.npeArmAtoms]))
    cases Option.some.inj (q1.symm.trans hfound)
    cases Option.some.inj (q2.symm.trans (State.methodFound?_of_named Y.fill (by decide)))
    cases Option.some.inj (q3.symm.trans hnNF)
    rw [Launch.admits_selectMethod X.admits]; exact q4
  obtain ⟨cellS0, hcS0, hiss⟩ := Y.statics
  obtain ⟨u0, hu0⟩ := Cond.staticRefV Y.unassigned L.unassignedStatic L.statics hcS0 hiss (a' (.isRef (.static Bundle.tN "UNASSIGNED_STACK" Bundle.steD)) (by simp [Bundle.npeArmAtoms]))
  obtain ⟨sen, hsen⟩ := Cond.staticRefV Y.sentinel L.sentinelStatic L.statics hcS0 hiss (a' (.isRef (.static Bundle.tN "SUPPRESSED_SENTINEL" Bundle.listD)) (by simp [Bundle.npeArmAtoms]))
  obtain ⟨ci198, i198, fB, hk198, hg198, ha198, hsB, -, hnB, htB, hffB⟩ := Cond.ownField (t := .object "java/lang/Object") Y.found L.cls (by decide +kernel) (a' (.fieldLink Bundle.tN 198 Bundle.tN "backtrace" Bundle.objD) (by simp [Bundle.npeArmAtoms])) (a' (.lays Bundle.tN Bundle.tN "backtrace" Bundle.objD) (by simp [Bundle.npeArmAtoms])) e.platform hpl
  obtain ⟨cellS, hcS', heS, -, hkeep⟩ := X.same.2.2.2.2.2 T.aS cellS0 hcS0
  have hcellS : W.heap[T.aS]? = some cellS := hcS'
  have hout' : ∀ i, (⟨T.aS, i⟩ : Loc) ∉ locs := fun i hmem => by
    have := hlocs _ hmem cellS0 hcS0
    rw [hiss] at this; cases this
  have hknownS : cellS.vm ≠ .unknown := by
    rw [heS]; intro hu
    rw [show cellS0.vm = .unknown from hu] at hiss
    cases hiss
  have hvU : cellS.slots[T.fUnassigned.slot]? = some u0.v := by rw [hkeep _ (hout' _)]; exact hu0
  have hvSen : cellS.slots[T.fSentinel.slot]? = some sen.v := by rw [hkeep _ (hout' _)]; exact hsen
  obtain ⟨tyC, dC, hdC, hdnC⟩ := Cond.laysAt hfound hk Y.cause (a' (.lays Bundle.nN Bundle.tN "cause" "Ljava/lang/Throwable;") (by simp [Bundle.npeArmAtoms]))
  obtain ⟨tyS, dS, hdS, hdnS⟩ := Cond.laysAt hfound hk Y.stack (a' (.lays Bundle.nN Bundle.tN "stackTrace" Bundle.steD) (by simp [Bundle.npeArmAtoms]))
  obtain ⟨tyP, dP, hdP, hdnP⟩ := Cond.laysAt hfound hk Y.supp (a' (.lays Bundle.nN Bundle.tN "suppressedExceptions" Bundle.listD) (by simp [Bundle.npeArmAtoms]))
  obtain ⟨tyX, dX, hdX, hdnX⟩ := Cond.laysAt hfound hk hffS (a' (.lays Bundle.nN Bundle.nN "extendedMessageState" "I") (by simp [Bundle.npeArmAtoms, Bundle.npeAtoms]))
  obtain ⟨hnX, htX⟩ := State.fieldFound?_type hffS (t := .int) (by decide +kernel)
  have xC := Cond.laysApart hdC hdX hdnC hdnX (by rw [hnX, Y.causeName]; decide)
  have xS := Cond.laysApart hdS hdX hdnS hdnX (by rw [hnX, Y.stackName]; decide)
  have xP := Cond.laysApart hdP hdX hdnP hdnX (by rw [hnX, Y.suppName]; decide)
  have hv0 : (freshCell P1.m.cls N.kN).slots[N.fState.slot]? = some (.int 0) := by
    have := fresh_default (c := P1.m.cls) tyX
    rw [htX] at this; exact this
  obtain ⟨tyB, dB, hdB, hdnB⟩ := Cond.laysAt hfound hk hffB (a' (.lays Bundle.nN Bundle.tN "backtrace" Bundle.objD) (by simp [Bundle.npeArmAtoms]))
  have bC := Cond.laysApart hdB hdC hdnB hdnC (by rw [hnB, Y.causeName]; decide)
  have bS := Cond.laysApart hdB hdS hdnB hdnS (by rw [hnB, Y.stackName]; decide)
  have bP := Cond.laysApart hdB hdP hdnB hdnP (by rw [hnB, Y.suppName]; decide)
  have bX := Cond.laysApart hdB hdX hdnB hdnX (by rw [hnB, hnX]; decide)
  have hbk : ((npeCell N.toNpeT (preparedCellV T.toThrowableT (freshCell P1.m.cls N.kN) W.heap.size u0 sen) W.cur).withEntry W.cur).slots[fB.slot]? = some .null := by
    have := fresh_default (c := P1.m.cls) tyB
    rw [htB] at this
    simpa [npeCell, preparedCellV, Cell.setSlot, Cell.withEntry, Array.getElem?_setIfInBounds, bC, bS, bP, bX, bC.symm, bS.symm, bP.symm, bX.symm, defaultValue] using this
  have tkC := Takes.of_laid (v := .ref W.heap.size) hk hordN tyC (by rw [Y.causeType]; rfl)
  have tkS := Takes.of_laid (v := u0.v) hk hordN tyS (by rw [Y.stackType]; exact fits_refV_array _ u0)
  have tkP := Takes.of_laid (v := sen.v) hk hordN tyP (by rw [Y.suppType]; exact fits_refV_object _ sen)
  have tkX := Takes.of_laid (v := .int 1) hk hordN tyX (by rw [htX]; rfl)
  have hskip : SkipFacts T e.platform s (fun u => u) u0 ((npeCell N.toNpeT (preparedCellV T.toThrowableT (freshCell P1.m.cls N.kN) W.heap.size u0 sen) W.cur).withEntry W.cur) := ⟨{ ci198 := ci198, i198 := i198, fBack := fB }, ⟨hk198, hg198, ha198, hsB⟩, hbk, fun _ _ => rfl⟩
  obtain ⟨vm', X3, st, -⟩ := X.throwsNpeColdBareVAt hexec hg hsize T L Z LZ N LN P1 L1 [PR, PE] hLs hlink1 ⟨hlinkR, hlinkE, trivial⟩ hfound hk hinit hordN hctor hsel0 hselF hcellS hknownS hvU hvSen
    hv0 xC xS xP tkC tkS tkP tkX Y.objLocals hskip (fun _ _ hA hW _ hroom _ hrest => L.nativeOff p htr hA hW hroom hrest) (by simpa using hRframes) hRlocals (by simp) hRcells (by rw [hn]; exact hRslots)
  have hlt : W.heap.size < ((W.pushCell (freshCell P1.m.cls N.kN)).setVm vm').heap.size := by
    show W.heap.size < (W.pushCell (freshCell P1.m.cls N.kN)).heap.size
    rw [State.heap_size_pushCell]; omega
  rw [hfsz] at X3
  obtain ⟨g₁, hfrM⟩ := X3.frames_eq
  have hU : ((((W.pushCell (freshCell P1.m.cls N.kN)).setVm vm').setCell W.heap.size (npeBareV T.toThrowableT N.toNpeT (freshCell P1.m.cls N.kN) W.heap.size u0 sen)).setTop g).pushFrame (.throwing W.heap.size) = (((W.pushCell (freshCell P1.m.cls N.kN)).setVm vm').setCell W.heap.size (npeBareV T.toThrowableT N.toNpeT (freshCell P1.m.cls N.kN) W.heap.size u0 sen)).setFrames (.throwing W.heap.size :: .java g :: below) := by
    rw [State.pushFrame, State.frames_setTop _ hfrM, State.setTop_of_frames _ hfrM, State.setFrames_setFrames]
  refine ⟨_, W.heap.size, _, fun target ht => st.trans (by rw [← hU]; exact ht), X3.forget (fun y hy => ?_), heapAt_setCell_self _ hlt, hfound, rfl⟩
  simp only [List.mem_cons, List.not_mem_nil, or_false] at hy
  have hge : s.heap.size ≤ W.heap.size := X.same.2.1
  rcases hy with rfl | rfl | rfl | rfl | rfl <;> exact hge
/-- the words of a machine's NullPointerException, but the four that speak of the heap -/
def vx_atN (n : Nat) : List Cond := (Bundle.npeArmAtoms n).filter vx_no
/-- the words of a machine's throw with a message, but the four that speak of the heap -/
def vx_atM (X : String) (names : List String) : List Cond := (Bundle.messageArmAtoms X names).filter vx_no
section
variable {p : Program} {l : Launch} {e : Env} {R : Room} {s : State} {m : MethodId} {args : Array Value} {below : List Frame} {meth : Method} {c : Code} {H : Heap} {locs : List Loc} {cells slots : Nat}
/-- a frame seen from a rebased start, seen from the first start again -/
theorem vx_back9 {T S : State} {R' : Room} {k n : Nat} (X : Stand p l e R s m args below meth c T locs cells slots) (Y : Stand p l e R' ((T.setVm s.vm).setFrames (.invoking m args :: below)) m args below meth c T [] 0 0) (Z : Stand p l e R' ((T.setVm s.vm).setFrames (.invoking m args :: below)) m args below meth c S [] k n) :
    Stand p l e R s m args below meth c S locs (cells + k) (slots + n) := by
  have hW0 : s.WarmedH ((T.setVm s.vm).setFrames (.invoking m args :: below)).vm := State.WarmedH.refl s
  refine { admits := X.admits, cas := X.cas, clock := X.clock, frames := X.frames, room := X.room, hears := X.hears, method := X.method, code := X.code, here := Z.here, tail := Z.tail, warmed := State.WarmedH.trans hW0 Z.warmed, limits := Z.limits.trans (Y.limits.symm.trans X.limits), bytes := Z.bytes.trans (Y.bytes.symm.trans X.bytes), same := ?_ }
  obtain ⟨e1, e2⟩ := Z.same
  rw [State.setFrames_setFrames] at e1
  have h2 : (T.setVm s.vm).sameButNew (S.setVm s.vm) [] k n := ⟨e1, e2⟩
  have h3 := X.same.trans h2
  rw [List.append_nil] at h3
  exact h3
/-- from the machine's note that E is thrown here with this text -/
def vx_Note (p : Program) (l : Launch) (e : Env) (R : Room) (s : State) (m : MethodId) (args : Array Value) (below : List Frame) (meth : Method) (c : Code) (H : Heap) (locs : List Loc) (cells slots : Nat) (Q : State → Prop) (g : JFrame) (E text : String) : Prop :=
  ∀ T : State, T.heap = H → Stand p l e R s m args below meth c T locs cells slots → ∃ t, Steps p.tables e below ((T.setTop g).pushFrame (.throwNew E (some text) none)) t ∧ Q t
theorem vx_vm {pc : Nat} {ls : Array Slot} {rest : List Value} {Q : State → Prop} (hexec : p.tables.exec = Jvm.exec) (hl : l.stackTraces = false) {cls text : String} {names : List String} {nb : Nat} {A : Nat → Prop}
    (hcls : Bundle.fit cls = true) (hnames : ∀ n ∈ names, Bundle.fit n = true) (hsoe : (cls == "java/lang/StackOverflowError") = false) (hoom : (cls == "java/lang/OutOfMemoryError") = false)
    (hat : ∀ w ∈ vx_atM cls names, w.before args s = true) (hgood : ∀ w ∈ vx_atM cls names, vx_ot w = true)
    (hU : vx_Zq Bundle.tN "UNASSIGNED_STACK" Bundle.steD A s s.heap) (hN : vx_Zq Bundle.tN "SUPPRESSED_SENTINEL" Bundle.listD A s s.heap) (hS : va_S A s.heap H locs) (hsize : ls.size = c.maxLocals)
    (htext : (text == notModelled) = false) (hnb : (stringBytes (stringToUtf16 text)).size ≤ nb) (hnb1 : nb ≤ 1000)
    (hRframes : names.length + 4 < R.frames) (hRlocals : (rest.map fun v => v.category).sum + 10240 ≤ R.locals) (hshort : 13 * names.length + 55 ≤ 10240) (hRcells : cells + 3 ≤ R.cells) (hRslots : slots + (nb + 10) ≤ R.slots) (hlocks : meth.locks = false)
    (k : ∀ (H1 : Heap) (q9 : Addr) (ce : Cell), H.size ≤ H1.size → (∀ q : Nat, q < H.size → H1[q]? = H[q]?) → va_S A s.heap H1 locs → H1[q9]? = some ce → ce.vm = .none → s.vm.findClass cls = some ce.cls → vx_W p l e R s m args below meth c H1 locs (cells + 3) (slots + (nb + 10)) Q (F0 m pc ls rest) q9) :
    vx_Note p l e R s m args below meth c H locs cells slots Q (F0 m pc ls rest) cls text := by
  intro T hT X
  have htr : e.platform.stackTraces = false := (show e.platform.stackTraces = l.stackTraces by rw [X.admits.platform]).trans hl
  have Y := vx_rebase X (R' := { frames := R.frames, locals := R.locals, cells := 3, slots := nb + 10 }) (Nat.le_refl _) (Nat.le_refl _) hRcells hRslots
  have hhp : ((T.setVm s.vm).setFrames (.invoking m args :: below)).heap = H := hT
  have hW0 : s.WarmedH ((T.setVm s.vm).setFrames (.invoking m args :: below)).vm := State.WarmedH.refl s
  have hat' : ∀ w ∈ vx_atM cls names, w.before args ((T.setVm s.vm).setFrames (.invoking m args :: below)) = true := fun w hw => vx_ot_at hW0 rfl (hgood w hw) (hat w hw)
  have hU' : vx_Zq Bundle.tN "UNASSIGNED_STACK" Bundle.steD A ((T.setVm s.vm).setFrames (.invoking m args :: below)) ((T.setVm s.vm).setFrames (.invoking m args :: below)).heap := by rw [hhp]; exact vx_Zq.moved hW0.alike (hU.kept hS.2.1)
  have hN' : vx_Zq Bundle.tN "SUPPRESSED_SENTINEL" Bundle.listD A ((T.setVm s.vm).setFrames (.invoking m args :: below)) ((T.setVm s.vm).setFrames (.invoking m args :: below)).heap := by rw [hhp]; exact vx_Zq.moved hW0.alike (hN.kept hS.2.1)
  obtain ⟨S, q, ce, st, Z, hce, hcl', hv⟩ := vx_vmAt Y hexec htr (cls := cls) (names := names) (text := text) hcls hnames hsoe hoom (vx_own hat' (vx_isRefq hU'.1) (vx_isRefq hN'.1) hU'.2.word hN'.2.word) (fun x hx => nomatch hx) htext
    (by rw [Launch.admits_arrayLengthLimit X.admits]; omega) (by rw [Launch.admits_maxHeapBytes X.admits]; simp only [componentBytes]; omega)
    (g := F0 m pc ls rest) rfl hsize hRframes (by show 2 * 0 + (rest.map fun v => v.category).sum + 10240 ≤ R.locals; omega) hshort (by show 0 + 3 ≤ 3; omega) (by show 0 + (_ + 4 + 6) ≤ nb + 10; omega) hlocks
  obtain ⟨f1, f2⟩ := vx_frame Z.same
  have f1' : H.size ≤ S.heap.size := by rw [← hT]; exact f1
  have f2' : ∀ q : Nat, q < H.size → S.heap[q]? = H[q]? := fun q hq => by
    rw [← hT]
    exact f2 q (by rw [← hT] at hq; exact hq) (fun z hz => nomatch hz)
  have X5 := vx_back9 X Y Z
  have X6 : Stand p l e R s m args below meth c S locs (cells + 3) (slots + (nb + 10)) := { X5 with same := X5.same.mono (by omega) (by omega) }
  obtain ⟨t, a1, b1⟩ := k S.heap q ce f1' f2' ⟨Nat.le_trans hS.1 f1', fun q h1 h2 => (f2' q (Nat.lt_of_lt_of_le h1 hS.1)).trans (hS.2.1 q h1 h2), hS.2.2⟩ hce hv hcl' S rfl X6
  exact ⟨t, st t a1, b1⟩
/-- from the machine's note that NullPointerException is thrown here -/
def vx_NoteN (p : Program) (l : Launch) (e : Env) (R : Room) (s : State) (m : MethodId) (args : Array Value) (below : List Frame) (meth : Method) (c : Code) (H : Heap) (locs : List Loc) (cells slots : Nat) (Q : State → Prop) (g : JFrame) : Prop :=
  ∀ T : State, T.heap = H → Stand p l e R s m args below meth c T locs cells slots → ∃ t, Steps p.tables e below ((T.setTop g).pushFrame (.throwNew "java/lang/NullPointerException" none none)) t ∧ Q t
theorem vx_npe {pc : Nat} {ls : Array Slot} {rest : List Value} {Q : State → Prop} (hexec : p.tables.exec = Jvm.exec) (hl : l.stackTraces = false) {nb : Nat} {A : Nat → Prop}
    (hat : ∀ w ∈ vx_atN nb, w.before args s = true) (hgood : ∀ w ∈ vx_atN nb, vx_ot w = true)
    (hU : vx_Zq Bundle.tN "UNASSIGNED_STACK" Bundle.steD A s s.heap) (hN : vx_Zq Bundle.tN "SUPPRESSED_SENTINEL" Bundle.listD A s s.heap) (hS : va_S A s.heap H locs) (hsize : ls.size = c.maxLocals)
    (hRframes : 7 < R.frames) (hRlocals : (rest.map fun v => v.category).sum + 10240 ≤ R.locals) (hRcells : cells + 1 ≤ R.cells) (hRslots : slots + nb ≤ R.slots) (hlocks : meth.locks = false)
    (k : ∀ (H1 : Heap) (q9 : Addr) (ce : Cell), H.size ≤ H1.size → (∀ q : Nat, q < H.size → H1[q]? = H[q]?) → va_S A s.heap H1 locs → H1[q9]? = some ce → ce.vm = .none → s.vm.findClass "java/lang/NullPointerException" = some ce.cls → vx_W p l e R s m args below meth c H1 locs (cells + 1) (slots + nb) Q (F0 m pc ls rest) q9) :
    vx_NoteN p l e R s m args below meth c H locs cells slots Q (F0 m pc ls rest) := by
  intro T hT X
  have htr : e.platform.stackTraces = false := (show e.platform.stackTraces = l.stackTraces by rw [X.admits.platform]).trans hl
  have Y := vx_rebase X (R' := { frames := R.frames, locals := R.locals, cells := 1, slots := nb }) (Nat.le_refl _) (Nat.le_refl _) hRcells hRslots
  have hhp : ((T.setVm s.vm).setFrames (.invoking m args :: below)).heap = H := hT
  have hW0 : s.WarmedH ((T.setVm s.vm).setFrames (.invoking m args :: below)).vm := State.WarmedH.refl s
  have hat' : ∀ w ∈ vx_atN nb, w.before args ((T.setVm s.vm).setFrames (.invoking m args :: below)) = true := fun w hw => vx_ot_at hW0 rfl (hgood w hw) (hat w hw)
  have hU' : vx_Zq Bundle.tN "UNASSIGNED_STACK" Bundle.steD A ((T.setVm s.vm).setFrames (.invoking m args :: below)) ((T.setVm s.vm).setFrames (.invoking m args :: below)).heap := by rw [hhp]; exact vx_Zq.moved hW0.alike (hU.kept hS.2.1)
  have hN' : vx_Zq Bundle.tN "SUPPRESSED_SENTINEL" Bundle.listD A ((T.setVm s.vm).setFrames (.invoking m args :: below)) ((T.setVm s.vm).setFrames (.invoking m args :: below)).heap := by rw [hhp]; exact vx_Zq.moved hW0.alike (hN.kept hS.2.1)
  obtain ⟨S, q, ce, st, Z, hce, hcl', hv⟩ := vx_npeAt Y hexec htr (n := nb) (vx_own hat' (vx_isRefq hU'.1) (vx_isRefq hN'.1) hU'.2.word hN'.2.word) (fun x hx => nomatch hx)
    (g := F0 m pc ls rest) rfl hsize hRframes (by show 2 * 0 + (rest.map fun v => v.category).sum + 10240 ≤ R.locals; omega) (by show 0 + 1 ≤ 1; omega) (by show 0 + nb ≤ nb; omega) hlocks
  obtain ⟨f1, f2⟩ := vx_frame Z.same
  have f1' : H.size ≤ S.heap.size := by rw [← hT]; exact f1
  have f2' : ∀ q : Nat, q < H.size → S.heap[q]? = H[q]? := fun q hq => by
    rw [← hT]
    exact f2 q (by rw [← hT] at hq; exact hq) (fun z hz => nomatch hz)
  have X5 := vx_back9 X Y Z
  have X6 : Stand p l e R s m args below meth c S locs (cells + 1) (slots + nb) := { X5 with same := X5.same.mono (by omega) (by omega) }
  obtain ⟨t, a1, b1⟩ := k S.heap q ce f1' f2' ⟨Nat.le_trans hS.1 f1', fun q h1 h2 => (f2' q (Nat.lt_of_lt_of_le h1 hS.1)).trans (hS.2.1 q h1 h2), hS.2.2⟩ hce hv hcl' S rfl X6
  exact ⟨t, st t a1, b1⟩
variable {Q : State → Prop} {cc : ByteArray} {pc : Nat} {ls : Array Slot} {rest : List Value}
theorem vx_idivZ (hexec : p.tables.exec = Jvm.exec) (hb : c.code = cc) {a b : Int32} (h0 : b = 0) (d : decode cc pc = .ok (.idiv, 1)) (k : vx_Note p l e R s m args below meth c H locs cells slots Q (F0 m pc ls rest) "java/lang/ArithmeticException" "/ by zero") :
    W p l e R s m args below meth c H locs cells slots Q (F0 m pc ls (.int b :: .int a :: rest)) := by
  intro T hT X
  obtain ⟨t, st, q⟩ := k T hT X
  exact ⟨t, X.idivZero hexec (g := F0 m pc ls (.int b :: .int a :: rest)) rfl (a := a) (rest := rest) (by rw [h0]) (by rw [hb]; exact d) t st, q⟩
theorem vx_iremZ (hexec : p.tables.exec = Jvm.exec) (hb : c.code = cc) {a b : Int32} (h0 : b = 0) (d : decode cc pc = .ok (.irem, 1)) (k : vx_Note p l e R s m args below meth c H locs cells slots Q (F0 m pc ls rest) "java/lang/ArithmeticException" "/ by zero") :
    W p l e R s m args below meth c H locs cells slots Q (F0 m pc ls (.int b :: .int a :: rest)) := by
  intro T hT X
  obtain ⟨t, st, q⟩ := k T hT X
  exact ⟨t, X.iremZero hexec (g := F0 m pc ls (.int b :: .int a :: rest)) rfl (a := a) (rest := rest) (by rw [h0]) (by rw [hb]; exact d) t st, q⟩
theorem vx_ldivZ (hexec : p.tables.exec = Jvm.exec) (hb : c.code = cc) {a b : Int64} (h0 : b = 0) (d : decode cc pc = .ok (.ldiv, 1)) (k : vx_Note p l e R s m args below meth c H locs cells slots Q (F0 m pc ls rest) "java/lang/ArithmeticException" "/ by zero") :
    W p l e R s m args below meth c H locs cells slots Q (F0 m pc ls (.long b :: .long a :: rest)) := by
  intro T hT X
  obtain ⟨t, st, q⟩ := k T hT X
  exact ⟨t, X.ldivZero hexec (g := F0 m pc ls (.long b :: .long a :: rest)) rfl (a := a) (rest := rest) (by rw [h0]) (by rw [hb]; exact d) t st, q⟩
theorem vx_lremZ (hexec : p.tables.exec = Jvm.exec) (hb : c.code = cc) {a b : Int64} (h0 : b = 0) (d : decode cc pc = .ok (.lrem, 1)) (k : vx_Note p l e R s m args below meth c H locs cells slots Q (F0 m pc ls rest) "java/lang/ArithmeticException" "/ by zero") :
    W p l e R s m args below meth c H locs cells slots Q (F0 m pc ls (.long b :: .long a :: rest)) := by
  intro T hT X
  obtain ⟨t, st, q⟩ := k T hT X
  exact ⟨t, X.lremZero hexec (g := F0 m pc ls (.long b :: .long a :: rest)) rfl (a := a) (rest := rest) (by rw [h0]) (by rw [hb]; exact d) t st, q⟩
theorem vx_ialdZ {D : va_G} {cl : List vw_C} {ws : va_W} {tys : List (ClassId × FieldType)} {a : Nat} (hexec : p.tables.exec = Jvm.exec) (hb : c.code = cc) (hK : va_K D cl tys s) (hP : va_P D cl ws H) (q0 t0 : Nat) {cA : ClassId} {n : Nat} {f : Nat → Int32} (ha : ws[q0]? = some (a, .inl (cA, n, .inl f))) (ht : tys[t0]? = some (cA, .int)) {i : Int32} (hout : ¬ vp_in i n) (hdg : decode cc pc = .ok (.iaload, 1))
    (k : ∀ tx : String, tx = (toString "Index " ++ toString i ++ toString " out of bounds for length " ++ toString n : String) → vx_Note p l e R s m args below meth c H locs cells slots Q (F0 m pc ls rest) "java/lang/ArrayIndexOutOfBoundsException" tx) : W p l e R s m args below meth c H locs cells slots Q (F0 m pc ls (.int i :: .ref a :: rest)) := by
  intro T hT X
  obtain ⟨t, st, q⟩ := k _ rfl T hT X
  refine ⟨t, ?_, q⟩
  have h1 := X.ialoadOut hexec (by rw [hT]; exact hP q0 _ ha) ((hK.2 t0 _ ht).1 n (fun j => .int (f j))) (j := i) (by show (i < 0 ∨ (arrV _ _ _).slots.size ≤ _); rw [arrV_size]; exact Classical.byContradiction hout) (g := F0 m pc ls (.int i :: .ref a :: rest)) rfl (rest := rest) rfl (by rw [hb]; exact hdg) t
  simp only [arrV_size] at h1
  exact h1 st
theorem vx_iastZ {D : va_G} {cl : List vw_C} {ws : va_W} {tys : List (ClassId × FieldType)} {a : Nat} (hexec : p.tables.exec = Jvm.exec) (hb : c.code = cc) (hK : va_K D cl tys s) (hP : va_P D cl ws H) (q0 t0 : Nat) {cA : ClassId} {n : Nat} {f : Nat → Int32} (ha : ws[q0]? = some (a, .inl (cA, n, .inl f))) (ht : tys[t0]? = some (cA, .int)) {i : Int32} {x : Int32} (hout : ¬ vp_in i n) (hdg : decode cc pc = .ok (.iastore, 1))
    (k : ∀ tx : String, tx = (toString "Index " ++ toString i ++ toString " out of bounds for length " ++ toString n : String) → vx_Note p l e R s m args below meth c H locs cells slots Q (F0 m pc ls rest) "java/lang/ArrayIndexOutOfBoundsException" tx) : W p l e R s m args below meth c H locs cells slots Q (F0 m pc ls (.int x :: .int i :: .ref a :: rest)) := by
  intro T hT X
  obtain ⟨t, st, q⟩ := k _ rfl T hT X
  refine ⟨t, ?_, q⟩
  have h1 := X.iastoreOut hexec (by rw [hT]; exact hP q0 _ ha) ((hK.2 t0 _ ht).1 n (fun j => .int (f j))) (j := i) (by show (i < 0 ∨ (arrV _ _ _).slots.size ≤ _); rw [arrV_size]; exact Classical.byContradiction hout) (g := F0 m pc ls (.int x :: .int i :: .ref a :: rest)) rfl (rest := rest) rfl (by rw [hb]; exact hdg) t
  simp only [arrV_size] at h1
  exact h1 st
theorem vx_baldZ {D : va_G} {cl : List vw_C} {ws : va_W} {tys : List (ClassId × FieldType)} {a : Nat} (hexec : p.tables.exec = Jvm.exec) (hb : c.code = cc) (hK : va_K D cl tys s) (hP : va_P D cl ws H) (q0 t0 : Nat) {cA : ClassId} {n : Nat} {f : Nat → Int32} (ha : ws[q0]? = some (a, .inl (cA, n, .inl f))) (ht : tys[t0]? = some (cA, .byte)) {i : Int32} (hout : ¬ vp_in i n) (hdg : decode cc pc = .ok (.baload, 1))
    (k : ∀ tx : String, tx = (toString "Index " ++ toString i ++ toString " out of bounds for length " ++ toString n : String) → vx_Note p l e R s m args below meth c H locs cells slots Q (F0 m pc ls rest) "java/lang/ArrayIndexOutOfBoundsException" tx) : W p l e R s m args below meth c H locs cells slots Q (F0 m pc ls (.int i :: .ref a :: rest)) := by
  intro T hT X
  obtain ⟨t, st, q⟩ := k _ rfl T hT X
  refine ⟨t, ?_, q⟩
  have h1 := X.baloadOut hexec (by rw [hT]; exact hP q0 _ ha) ((hK.2 t0 _ ht).1 n (fun j => .int (f j))) (j := i) (by show (i < 0 ∨ (arrV _ _ _).slots.size ≤ _); rw [arrV_size]; exact Classical.byContradiction hout) (g := F0 m pc ls (.int i :: .ref a :: rest)) rfl (rest := rest) rfl (by rw [hb]; exact hdg) t
  simp only [arrV_size] at h1
  exact h1 st
theorem vx_bastZ {D : va_G} {cl : List vw_C} {ws : va_W} {tys : List (ClassId × FieldType)} {a : Nat} (hexec : p.tables.exec = Jvm.exec) (hb : c.code = cc) (hK : va_K D cl tys s) (hP : va_P D cl ws H) (q0 t0 : Nat) {cA : ClassId} {n : Nat} {f : Nat → Int32} (ha : ws[q0]? = some (a, .inl (cA, n, .inl f))) (ht : tys[t0]? = some (cA, .byte)) {i : Int32} {x : Int32} (hout : ¬ vp_in i n) (hdg : decode cc pc = .ok (.bastore, 1))
    (k : ∀ tx : String, tx = (toString "Index " ++ toString i ++ toString " out of bounds for length " ++ toString n : String) → vx_Note p l e R s m args below meth c H locs cells slots Q (F0 m pc ls rest) "java/lang/ArrayIndexOutOfBoundsException" tx) : W p l e R s m args below meth c H locs cells slots Q (F0 m pc ls (.int x :: .int i :: .ref a :: rest)) := by
  intro T hT X
  obtain ⟨t, st, q⟩ := k _ rfl T hT X
  refine ⟨t, ?_, q⟩
  have h1 := X.bastoreOut hexec (by rw [hT]; exact hP q0 _ ha) ((hK.2 t0 _ ht).1 n (fun j => .int (f j))) (j := i) (by show (i < 0 ∨ (arrV _ _ _).slots.size ≤ _); rw [arrV_size]; exact Classical.byContradiction hout) (g := F0 m pc ls (.int x :: .int i :: .ref a :: rest)) rfl (rest := rest) rfl (by rw [hb]; exact hdg) t
  simp only [arrV_size] at h1
  exact h1 st
theorem vx_zaldZ {D : va_G} {cl : List vw_C} {ws : va_W} {tys : List (ClassId × FieldType)} {a : Nat} (hexec : p.tables.exec = Jvm.exec) (hb : c.code = cc) (hK : va_K D cl tys s) (hP : va_P D cl ws H) (q0 t0 : Nat) {cA : ClassId} {n : Nat} {f : Nat → Int32} (ha : ws[q0]? = some (a, .inl (cA, n, .inl f))) (ht : tys[t0]? = some (cA, .boolean)) {i : Int32} (hout : ¬ vp_in i n) (hdg : decode cc pc = .ok (.baload, 1))
    (k : ∀ tx : String, tx = (toString "Index " ++ toString i ++ toString " out of bounds for length " ++ toString n : String) → vx_Note p l e R s m args below meth c H locs cells slots Q (F0 m pc ls rest) "java/lang/ArrayIndexOutOfBoundsException" tx) : W p l e R s m args below meth c H locs cells slots Q (F0 m pc ls (.int i :: .ref a :: rest)) := by
  intro T hT X
  obtain ⟨t, st, q⟩ := k _ rfl T hT X
  refine ⟨t, ?_, q⟩
  have h1 := X.baloadOut hexec (by rw [hT]; exact hP q0 _ ha) ((hK.2 t0 _ ht).1 n (fun j => .int (f j))) (j := i) (by show (i < 0 ∨ (arrV _ _ _).slots.size ≤ _); rw [arrV_size]; exact Classical.byContradiction hout) (g := F0 m pc ls (.int i :: .ref a :: rest)) rfl (rest := rest) rfl (by rw [hb]; exact hdg) t
  simp only [arrV_size] at h1
  exact h1 st
theorem vx_zastZ {D : va_G} {cl : List vw_C} {ws : va_W} {tys : List (ClassId × FieldType)} {a : Nat} (hexec : p.tables.exec = Jvm.exec) (hb : c.code = cc) (hK : va_K D cl tys s) (hP : va_P D cl ws H) (q0 t0 : Nat) {cA : ClassId} {n : Nat} {f : Nat → Int32} (ha : ws[q0]? = some (a, .inl (cA, n, .inl f))) (ht : tys[t0]? = some (cA, .boolean)) {i : Int32} {x : Int32} (hout : ¬ vp_in i n) (hdg : decode cc pc = .ok (.bastore, 1))
    (k : ∀ tx : String, tx = (toString "Index " ++ toString i ++ toString " out of bounds for length " ++ toString n : String) → vx_Note p l e R s m args below meth c H locs cells slots Q (F0 m pc ls rest) "java/lang/ArrayIndexOutOfBoundsException" tx) : W p l e R s m args below meth c H locs cells slots Q (F0 m pc ls (.int x :: .int i :: .ref a :: rest)) := by
  intro T hT X
  obtain ⟨t, st, q⟩ := k _ rfl T hT X
  refine ⟨t, ?_, q⟩
  have h1 := X.bastoreOut hexec (by rw [hT]; exact hP q0 _ ha) ((hK.2 t0 _ ht).1 n (fun j => .int (f j))) (j := i) (by show (i < 0 ∨ (arrV _ _ _).slots.size ≤ _); rw [arrV_size]; exact Classical.byContradiction hout) (g := F0 m pc ls (.int x :: .int i :: .ref a :: rest)) rfl (rest := rest) rfl (by rw [hb]; exact hdg) t
  simp only [arrV_size] at h1
  exact h1 st
theorem vx_caldZ {D : va_G} {cl : List vw_C} {ws : va_W} {tys : List (ClassId × FieldType)} {a : Nat} (hexec : p.tables.exec = Jvm.exec) (hb : c.code = cc) (hK : va_K D cl tys s) (hP : va_P D cl ws H) (q0 t0 : Nat) {cA : ClassId} {n : Nat} {f : Nat → Int32} (ha : ws[q0]? = some (a, .inl (cA, n, .inl f))) (ht : tys[t0]? = some (cA, .char)) {i : Int32} (hout : ¬ vp_in i n) (hdg : decode cc pc = .ok (.caload, 1))
    (k : ∀ tx : String, tx = (toString "Index " ++ toString i ++ toString " out of bounds for length " ++ toString n : String) → vx_Note p l e R s m args below meth c H locs cells slots Q (F0 m pc ls rest) "java/lang/ArrayIndexOutOfBoundsException" tx) : W p l e R s m args below meth c H locs cells slots Q (F0 m pc ls (.int i :: .ref a :: rest)) := by
  intro T hT X
  obtain ⟨t, st, q⟩ := k _ rfl T hT X
  refine ⟨t, ?_, q⟩
  have h1 := X.caloadOut hexec (by rw [hT]; exact hP q0 _ ha) ((hK.2 t0 _ ht).1 n (fun j => .int (f j))) (j := i) (by show (i < 0 ∨ (arrV _ _ _).slots.size ≤ _); rw [arrV_size]; exact Classical.byContradiction hout) (g := F0 m pc ls (.int i :: .ref a :: rest)) rfl (rest := rest) rfl (by rw [hb]; exact hdg) t
  simp only [arrV_size] at h1
  exact h1 st
theorem vx_castZ {D : va_G} {cl : List vw_C} {ws : va_W} {tys : List (ClassId × FieldType)} {a : Nat} (hexec : p.tables.exec = Jvm.exec) (hb : c.code = cc) (hK : va_K D cl tys s) (hP : va_P D cl ws H) (q0 t0 : Nat) {cA : ClassId} {n : Nat} {f : Nat → Int32} (ha : ws[q0]? = some (a, .inl (cA, n, .inl f))) (ht : tys[t0]? = some (cA, .char)) {i : Int32} {x : Int32} (hout : ¬ vp_in i n) (hdg : decode cc pc = .ok (.castore, 1))
    (k : ∀ tx : String, tx = (toString "Index " ++ toString i ++ toString " out of bounds for length " ++ toString n : String) → vx_Note p l e R s m args below meth c H locs cells slots Q (F0 m pc ls rest) "java/lang/ArrayIndexOutOfBoundsException" tx) : W p l e R s m args below meth c H locs cells slots Q (F0 m pc ls (.int x :: .int i :: .ref a :: rest)) := by
  intro T hT X
  obtain ⟨t, st, q⟩ := k _ rfl T hT X
  refine ⟨t, ?_, q⟩
  have h1 := X.castoreOut hexec (by rw [hT]; exact hP q0 _ ha) ((hK.2 t0 _ ht).1 n (fun j => .int (f j))) (j := i) (by show (i < 0 ∨ (arrV _ _ _).slots.size ≤ _); rw [arrV_size]; exact Classical.byContradiction hout) (g := F0 m pc ls (.int x :: .int i :: .ref a :: rest)) rfl (rest := rest) rfl (by rw [hb]; exact hdg) t
  simp only [arrV_size] at h1
  exact h1 st
theorem vx_saldZ {D : va_G} {cl : List vw_C} {ws : va_W} {tys : List (ClassId × FieldType)} {a : Nat} (hexec : p.tables.exec = Jvm.exec) (hb : c.code = cc) (hK : va_K D cl tys s) (hP : va_P D cl ws H) (q0 t0 : Nat) {cA : ClassId} {n : Nat} {f : Nat → Int32} (ha : ws[q0]? = some (a, .inl (cA, n, .inl f))) (ht : tys[t0]? = some (cA, .short)) {i : Int32} (hout : ¬ vp_in i n) (hdg : decode cc pc = .ok (.saload, 1))
    (k : ∀ tx : String, tx = (toString "Index " ++ toString i ++ toString " out of bounds for length " ++ toString n : String) → vx_Note p l e R s m args below meth c H locs cells slots Q (F0 m pc ls rest) "java/lang/ArrayIndexOutOfBoundsException" tx) : W p l e R s m args below meth c H locs cells slots Q (F0 m pc ls (.int i :: .ref a :: rest)) := by
  intro T hT X
  obtain ⟨t, st, q⟩ := k _ rfl T hT X
  refine ⟨t, ?_, q⟩
  have h1 := X.saloadOut hexec (by rw [hT]; exact hP q0 _ ha) ((hK.2 t0 _ ht).1 n (fun j => .int (f j))) (j := i) (by show (i < 0 ∨ (arrV _ _ _).slots.size ≤ _); rw [arrV_size]; exact Classical.byContradiction hout) (g := F0 m pc ls (.int i :: .ref a :: rest)) rfl (rest := rest) rfl (by rw [hb]; exact hdg) t
  simp only [arrV_size] at h1
  exact h1 st
theorem vx_sastZ {D : va_G} {cl : List vw_C} {ws : va_W} {tys : List (ClassId × FieldType)} {a : Nat} (hexec : p.tables.exec = Jvm.exec) (hb : c.code = cc) (hK : va_K D cl tys s) (hP : va_P D cl ws H) (q0 t0 : Nat) {cA : ClassId} {n : Nat} {f : Nat → Int32} (ha : ws[q0]? = some (a, .inl (cA, n, .inl f))) (ht : tys[t0]? = some (cA, .short)) {i : Int32} {x : Int32} (hout : ¬ vp_in i n) (hdg : decode cc pc = .ok (.sastore, 1))
    (k : ∀ tx : String, tx = (toString "Index " ++ toString i ++ toString " out of bounds for length " ++ toString n : String) → vx_Note p l e R s m args below meth c H locs cells slots Q (F0 m pc ls rest) "java/lang/ArrayIndexOutOfBoundsException" tx) : W p l e R s m args below meth c H locs cells slots Q (F0 m pc ls (.int x :: .int i :: .ref a :: rest)) := by
  intro T hT X
  obtain ⟨t, st, q⟩ := k _ rfl T hT X
  refine ⟨t, ?_, q⟩
  have h1 := X.sastoreOut hexec (by rw [hT]; exact hP q0 _ ha) ((hK.2 t0 _ ht).1 n (fun j => .int (f j))) (j := i) (by show (i < 0 ∨ (arrV _ _ _).slots.size ≤ _); rw [arrV_size]; exact Classical.byContradiction hout) (g := F0 m pc ls (.int x :: .int i :: .ref a :: rest)) rfl (rest := rest) rfl (by rw [hb]; exact hdg) t
  simp only [arrV_size] at h1
  exact h1 st
theorem vx_laldZ {D : va_G} {cl : List vw_C} {ws : va_W} {tys : List (ClassId × FieldType)} {a : Nat} (hexec : p.tables.exec = Jvm.exec) (hb : c.code = cc) (hK : va_K D cl tys s) (hP : va_P D cl ws H) (q0 t0 : Nat) {cA : ClassId} {n : Nat} {f : Nat → Int64} (ha : ws[q0]? = some (a, .inl (cA, n, .inr (.inl f)))) (ht : tys[t0]? = some (cA, .long)) {i : Int32} (hout : ¬ vp_in i n) (hdg : decode cc pc = .ok (.laload, 1))
    (k : ∀ tx : String, tx = (toString "Index " ++ toString i ++ toString " out of bounds for length " ++ toString n : String) → vx_Note p l e R s m args below meth c H locs cells slots Q (F0 m pc ls rest) "java/lang/ArrayIndexOutOfBoundsException" tx) : W p l e R s m args below meth c H locs cells slots Q (F0 m pc ls (.int i :: .ref a :: rest)) := by
  intro T hT X
  obtain ⟨t, st, q⟩ := k _ rfl T hT X
  refine ⟨t, ?_, q⟩
  have h1 := X.laloadOut hexec (by rw [hT]; exact hP q0 _ ha) ((hK.2 t0 _ ht).1 n (fun j => .long (f j))) (j := i) (by show (i < 0 ∨ (arrV _ _ _).slots.size ≤ _); rw [arrV_size]; exact Classical.byContradiction hout) (g := F0 m pc ls (.int i :: .ref a :: rest)) rfl (rest := rest) rfl (by rw [hb]; exact hdg) t
  simp only [arrV_size] at h1
  exact h1 st
theorem vx_lastZ {D : va_G} {cl : List vw_C} {ws : va_W} {tys : List (ClassId × FieldType)} {a : Nat} (hexec : p.tables.exec = Jvm.exec) (hb : c.code = cc) (hK : va_K D cl tys s) (hP : va_P D cl ws H) (q0 t0 : Nat) {cA : ClassId} {n : Nat} {f : Nat → Int64} (ha : ws[q0]? = some (a, .inl (cA, n, .inr (.inl f)))) (ht : tys[t0]? = some (cA, .long)) {i : Int32} {x : Int64} (hout : ¬ vp_in i n) (hdg : decode cc pc = .ok (.lastore, 1))
    (k : ∀ tx : String, tx = (toString "Index " ++ toString i ++ toString " out of bounds for length " ++ toString n : String) → vx_Note p l e R s m args below meth c H locs cells slots Q (F0 m pc ls rest) "java/lang/ArrayIndexOutOfBoundsException" tx) : W p l e R s m args below meth c H locs cells slots Q (F0 m pc ls (.long x :: .int i :: .ref a :: rest)) := by
  intro T hT X
  obtain ⟨t, st, q⟩ := k _ rfl T hT X
  refine ⟨t, ?_, q⟩
  have h1 := X.lastoreOut hexec (by rw [hT]; exact hP q0 _ ha) ((hK.2 t0 _ ht).1 n (fun j => .long (f j))) (j := i) (by show (i < 0 ∨ (arrV _ _ _).slots.size ≤ _); rw [arrV_size]; exact Classical.byContradiction hout) (g := F0 m pc ls (.long x :: .int i :: .ref a :: rest)) rfl (rest := rest) rfl (by rw [hb]; exact hdg) t
  simp only [arrV_size] at h1
  exact h1 st
theorem vx_faldZ {D : va_G} {cl : List vw_C} {ws : va_W} {tys : List (ClassId × FieldType)} {a : Nat} (hexec : p.tables.exec = Jvm.exec) (hb : c.code = cc) (hK : va_K D cl tys s) (hP : va_P D cl ws H) (q0 t0 : Nat) {cA : ClassId} {n : Nat} {f : Nat → UInt32} (ha : ws[q0]? = some (a, .inl (cA, n, .inr (.inr (.inl f))))) (ht : tys[t0]? = some (cA, .float)) {i : Int32} (hout : ¬ vp_in i n) (hdg : decode cc pc = .ok (.faload, 1))
    (k : ∀ tx : String, tx = (toString "Index " ++ toString i ++ toString " out of bounds for length " ++ toString n : String) → vx_Note p l e R s m args below meth c H locs cells slots Q (F0 m pc ls rest) "java/lang/ArrayIndexOutOfBoundsException" tx) : W p l e R s m args below meth c H locs cells slots Q (F0 m pc ls (.int i :: .ref a :: rest)) := by
  intro T hT X
  obtain ⟨t, st, q⟩ := k _ rfl T hT X
  refine ⟨t, ?_, q⟩
  have h1 := X.faloadOut hexec (by rw [hT]; exact hP q0 _ ha) ((hK.2 t0 _ ht).1 n (fun j => .float (f j))) (j := i) (by show (i < 0 ∨ (arrV _ _ _).slots.size ≤ _); rw [arrV_size]; exact Classical.byContradiction hout) (g := F0 m pc ls (.int i :: .ref a :: rest)) rfl (rest := rest) rfl (by rw [hb]; exact hdg) t
  simp only [arrV_size] at h1
  exact h1 st
theorem vx_fastZ {D : va_G} {cl : List vw_C} {ws : va_W} {tys : List (ClassId × FieldType)} {a : Nat} (hexec : p.tables.exec = Jvm.exec) (hb : c.code = cc) (hK : va_K D cl tys s) (hP : va_P D cl ws H) (q0 t0 : Nat) {cA : ClassId} {n : Nat} {f : Nat → UInt32} (ha : ws[q0]? = some (a, .inl (cA, n, .inr (.inr (.inl f))))) (ht : tys[t0]? = some (cA, .float)) {i : Int32} {x : UInt32} (hout : ¬ vp_in i n) (hdg : decode cc pc = .ok (.fastore, 1))
    (k : ∀ tx : String, tx = (toString "Index " ++ toString i ++ toString " out of bounds for length " ++ toString n : String) → vx_Note p l e R s m args below meth c H locs cells slots Q (F0 m pc ls rest) "java/lang/ArrayIndexOutOfBoundsException" tx) : W p l e R s m args below meth c H locs cells slots Q (F0 m pc ls (.float x :: .int i :: .ref a :: rest)) := by
  intro T hT X
  obtain ⟨t, st, q⟩ := k _ rfl T hT X
  refine ⟨t, ?_, q⟩
  have h1 := X.fastoreOut hexec (by rw [hT]; exact hP q0 _ ha) ((hK.2 t0 _ ht).1 n (fun j => .float (f j))) (j := i) (by show (i < 0 ∨ (arrV _ _ _).slots.size ≤ _); rw [arrV_size]; exact Classical.byContradiction hout) (g := F0 m pc ls (.float x :: .int i :: .ref a :: rest)) rfl (rest := rest) rfl (by rw [hb]; exact hdg) t
  simp only [arrV_size] at h1
  exact h1 st
theorem vx_daldZ {D : va_G} {cl : List vw_C} {ws : va_W} {tys : List (ClassId × FieldType)} {a : Nat} (hexec : p.tables.exec = Jvm.exec) (hb : c.code = cc) (hK : va_K D cl tys s) (hP : va_P D cl ws H) (q0 t0 : Nat) {cA : ClassId} {n : Nat} {f : Nat → UInt64} (ha : ws[q0]? = some (a, .inl (cA, n, .inr (.inr (.inr (.inl f)))))) (ht : tys[t0]? = some (cA, .double)) {i : Int32} (hout : ¬ vp_in i n) (hdg : decode cc pc = .ok (.daload, 1))
    (k : ∀ tx : String, tx = (toString "Index " ++ toString i ++ toString " out of bounds for length " ++ toString n : String) → vx_Note p l e R s m args below meth c H locs cells slots Q (F0 m pc ls rest) "java/lang/ArrayIndexOutOfBoundsException" tx) : W p l e R s m args below meth c H locs cells slots Q (F0 m pc ls (.int i :: .ref a :: rest)) := by
  intro T hT X
  obtain ⟨t, st, q⟩ := k _ rfl T hT X
  refine ⟨t, ?_, q⟩
  have h1 := X.daloadOut hexec (by rw [hT]; exact hP q0 _ ha) ((hK.2 t0 _ ht).1 n (fun j => .double (f j))) (j := i) (by show (i < 0 ∨ (arrV _ _ _).slots.size ≤ _); rw [arrV_size]; exact Classical.byContradiction hout) (g := F0 m pc ls (.int i :: .ref a :: rest)) rfl (rest := rest) rfl (by rw [hb]; exact hdg) t
  simp only [arrV_size] at h1
  exact h1 st
theorem vx_dastZ {D : va_G} {cl : List vw_C} {ws : va_W} {tys : List (ClassId × FieldType)} {a : Nat} (hexec : p.tables.exec = Jvm.exec) (hb : c.code = cc) (hK : va_K D cl tys s) (hP : va_P D cl ws H) (q0 t0 : Nat) {cA : ClassId} {n : Nat} {f : Nat → UInt64} (ha : ws[q0]? = some (a, .inl (cA, n, .inr (.inr (.inr (.inl f)))))) (ht : tys[t0]? = some (cA, .double)) {i : Int32} {x : UInt64} (hout : ¬ vp_in i n) (hdg : decode cc pc = .ok (.dastore, 1))
    (k : ∀ tx : String, tx = (toString "Index " ++ toString i ++ toString " out of bounds for length " ++ toString n : String) → vx_Note p l e R s m args below meth c H locs cells slots Q (F0 m pc ls rest) "java/lang/ArrayIndexOutOfBoundsException" tx) : W p l e R s m args below meth c H locs cells slots Q (F0 m pc ls (.double x :: .int i :: .ref a :: rest)) := by
  intro T hT X
  obtain ⟨t, st, q⟩ := k _ rfl T hT X
  refine ⟨t, ?_, q⟩
  have h1 := X.dastoreOut hexec (by rw [hT]; exact hP q0 _ ha) ((hK.2 t0 _ ht).1 n (fun j => .double (f j))) (j := i) (by show (i < 0 ∨ (arrV _ _ _).slots.size ≤ _); rw [arrV_size]; exact Classical.byContradiction hout) (g := F0 m pc ls (.double x :: .int i :: .ref a :: rest)) rfl (rest := rest) rfl (by rw [hb]; exact hdg) t
  simp only [arrV_size] at h1
  exact h1 st
theorem vx_arraylengthN (hexec : p.tables.exec = Jvm.exec) (hb : c.code = cc) (hdg : decode cc pc = .ok (.arraylength, 1)) (k : vx_NoteN p l e R s m args below meth c H locs cells slots Q (F0 m pc ls rest)) : W p l e R s m args below meth c H locs cells slots Q (F0 m pc ls (.null :: rest)) := by
  intro T hT X
  obtain ⟨t, st, q⟩ := k T hT X
  exact ⟨t, X.arraylengthNull hexec (g := F0 m pc ls (.null :: rest)) rfl (rest := rest) rfl (by rw [hb]; exact hdg) t st, q⟩
theorem vx_ialoadN (hexec : p.tables.exec = Jvm.exec) (hb : c.code = cc) {i : Int32} (hdg : decode cc pc = .ok (.iaload, 1)) (k : vx_NoteN p l e R s m args below meth c H locs cells slots Q (F0 m pc ls rest)) : W p l e R s m args below meth c H locs cells slots Q (F0 m pc ls (.int i :: .null :: rest)) := by
  intro T hT X
  obtain ⟨t, st, q⟩ := k T hT X
  exact ⟨t, X.ialoadNull hexec (g := F0 m pc ls (.int i :: .null :: rest)) rfl (rest := rest) rfl (by rw [hb]; exact hdg) t st, q⟩
theorem vx_laloadN (hexec : p.tables.exec = Jvm.exec) (hb : c.code = cc) {i : Int32} (hdg : decode cc pc = .ok (.laload, 1)) (k : vx_NoteN p l e R s m args below meth c H locs cells slots Q (F0 m pc ls rest)) : W p l e R s m args below meth c H locs cells slots Q (F0 m pc ls (.int i :: .null :: rest)) := by
  intro T hT X
  obtain ⟨t, st, q⟩ := k T hT X
  exact ⟨t, X.laloadNull hexec (g := F0 m pc ls (.int i :: .null :: rest)) rfl (rest := rest) rfl (by rw [hb]; exact hdg) t st, q⟩
theorem vx_faloadN (hexec : p.tables.exec = Jvm.exec) (hb : c.code = cc) {i : Int32} (hdg : decode cc pc = .ok (.faload, 1)) (k : vx_NoteN p l e R s m args below meth c H locs cells slots Q (F0 m pc ls rest)) : W p l e R s m args below meth c H locs cells slots Q (F0 m pc ls (.int i :: .null :: rest)) := by
  intro T hT X
  obtain ⟨t, st, q⟩ := k T hT X
  exact ⟨t, X.faloadNull hexec (g := F0 m pc ls (.int i :: .null :: rest)) rfl (rest := rest) rfl (by rw [hb]; exact hdg) t st, q⟩
theorem vx_daloadN (hexec : p.tables.exec = Jvm.exec) (hb : c.code = cc) {i : Int32} (hdg : decode cc pc = .ok (.daload, 1)) (k : vx_NoteN p l e R s m args below meth c H locs cells slots Q (F0 m pc ls rest)) : W p l e R s m args below meth c H locs cells slots Q (F0 m pc ls (.int i :: .null :: rest)) := by
  intro T hT X
  obtain ⟨t, st, q⟩ := k T hT X
  exact ⟨t, X.daloadNull hexec (g := F0 m pc ls (.int i :: .null :: rest)) rfl (rest := rest) rfl (by rw [hb]; exact hdg) t st, q⟩
theorem vx_aaloadN (hexec : p.tables.exec = Jvm.exec) (hb : c.code = cc) {i : Int32} (hdg : decode cc pc = .ok (.aaload, 1)) (k : vx_NoteN p l e R s m args below meth c H locs cells slots Q (F0 m pc ls rest)) : W p l e R s m args below meth c H locs cells slots Q (F0 m pc ls (.int i :: .null :: rest)) := by
  intro T hT X
  obtain ⟨t, st, q⟩ := k T hT X
  exact ⟨t, X.aaloadNull hexec (g := F0 m pc ls (.int i :: .null :: rest)) rfl (rest := rest) rfl (by rw [hb]; exact hdg) t st, q⟩
theorem vx_baloadN (hexec : p.tables.exec = Jvm.exec) (hb : c.code = cc) {i : Int32} (hdg : decode cc pc = .ok (.baload, 1)) (k : vx_NoteN p l e R s m args below meth c H locs cells slots Q (F0 m pc ls rest)) : W p l e R s m args below meth c H locs cells slots Q (F0 m pc ls (.int i :: .null :: rest)) := by
  intro T hT X
  obtain ⟨t, st, q⟩ := k T hT X
  exact ⟨t, X.baloadNull hexec (g := F0 m pc ls (.int i :: .null :: rest)) rfl (rest := rest) rfl (by rw [hb]; exact hdg) t st, q⟩
theorem vx_caloadN (hexec : p.tables.exec = Jvm.exec) (hb : c.code = cc) {i : Int32} (hdg : decode cc pc = .ok (.caload, 1)) (k : vx_NoteN p l e R s m args below meth c H locs cells slots Q (F0 m pc ls rest)) : W p l e R s m args below meth c H locs cells slots Q (F0 m pc ls (.int i :: .null :: rest)) := by
  intro T hT X
  obtain ⟨t, st, q⟩ := k T hT X
  exact ⟨t, X.caloadNull hexec (g := F0 m pc ls (.int i :: .null :: rest)) rfl (rest := rest) rfl (by rw [hb]; exact hdg) t st, q⟩
theorem vx_saloadN (hexec : p.tables.exec = Jvm.exec) (hb : c.code = cc) {i : Int32} (hdg : decode cc pc = .ok (.saload, 1)) (k : vx_NoteN p l e R s m args below meth c H locs cells slots Q (F0 m pc ls rest)) : W p l e R s m args below meth c H locs cells slots Q (F0 m pc ls (.int i :: .null :: rest)) := by
  intro T hT X
  obtain ⟨t, st, q⟩ := k T hT X
  exact ⟨t, X.saloadNull hexec (g := F0 m pc ls (.int i :: .null :: rest)) rfl (rest := rest) rfl (by rw [hb]; exact hdg) t st, q⟩
theorem vx_iastoreN (hexec : p.tables.exec = Jvm.exec) (hb : c.code = cc) {x : Int32} {i : Int32} (hdg : decode cc pc = .ok (.iastore, 1)) (k : vx_NoteN p l e R s m args below meth c H locs cells slots Q (F0 m pc ls rest)) : W p l e R s m args below meth c H locs cells slots Q (F0 m pc ls (.int x :: .int i :: .null :: rest)) := by
  intro T hT X
  obtain ⟨t, st, q⟩ := k T hT X
  exact ⟨t, X.iastoreNull hexec (g := F0 m pc ls (.int x :: .int i :: .null :: rest)) rfl (rest := rest) rfl (by rw [hb]; exact hdg) t st, q⟩
theorem vx_lastoreN (hexec : p.tables.exec = Jvm.exec) (hb : c.code = cc) {x : Int64} {i : Int32} (hdg : decode cc pc = .ok (.lastore, 1)) (k : vx_NoteN p l e R s m args below meth c H locs cells slots Q (F0 m pc ls rest)) : W p l e R s m args below meth c H locs cells slots Q (F0 m pc ls (.long x :: .int i :: .null :: rest)) := by
  intro T hT X
  obtain ⟨t, st, q⟩ := k T hT X
  exact ⟨t, X.lastoreNull hexec (g := F0 m pc ls (.long x :: .int i :: .null :: rest)) rfl (rest := rest) rfl (by rw [hb]; exact hdg) t st, q⟩
theorem vx_fastoreN (hexec : p.tables.exec = Jvm.exec) (hb : c.code = cc) {x : UInt32} {i : Int32} (hdg : decode cc pc = .ok (.fastore, 1)) (k : vx_NoteN p l e R s m args below meth c H locs cells slots Q (F0 m pc ls rest)) : W p l e R s m args below meth c H locs cells slots Q (F0 m pc ls (.float x :: .int i :: .null :: rest)) := by
  intro T hT X
  obtain ⟨t, st, q⟩ := k T hT X
  exact ⟨t, X.fastoreNull hexec (g := F0 m pc ls (.float x :: .int i :: .null :: rest)) rfl (rest := rest) rfl (by rw [hb]; exact hdg) t st, q⟩
theorem vx_dastoreN (hexec : p.tables.exec = Jvm.exec) (hb : c.code = cc) {x : UInt64} {i : Int32} (hdg : decode cc pc = .ok (.dastore, 1)) (k : vx_NoteN p l e R s m args below meth c H locs cells slots Q (F0 m pc ls rest)) : W p l e R s m args below meth c H locs cells slots Q (F0 m pc ls (.double x :: .int i :: .null :: rest)) := by
  intro T hT X
  obtain ⟨t, st, q⟩ := k T hT X
  exact ⟨t, X.dastoreNull hexec (g := F0 m pc ls (.double x :: .int i :: .null :: rest)) rfl (rest := rest) rfl (by rw [hb]; exact hdg) t st, q⟩
theorem vx_bastoreN (hexec : p.tables.exec = Jvm.exec) (hb : c.code = cc) {x : Int32} {i : Int32} (hdg : decode cc pc = .ok (.bastore, 1)) (k : vx_NoteN p l e R s m args below meth c H locs cells slots Q (F0 m pc ls rest)) : W p l e R s m args below meth c H locs cells slots Q (F0 m pc ls (.int x :: .int i :: .null :: rest)) := by
  intro T hT X
  obtain ⟨t, st, q⟩ := k T hT X
  exact ⟨t, X.bastoreNull hexec (g := F0 m pc ls (.int x :: .int i :: .null :: rest)) rfl (rest := rest) rfl (by rw [hb]; exact hdg) t st, q⟩
theorem vx_castoreN (hexec : p.tables.exec = Jvm.exec) (hb : c.code = cc) {x : Int32} {i : Int32} (hdg : decode cc pc = .ok (.castore, 1)) (k : vx_NoteN p l e R s m args below meth c H locs cells slots Q (F0 m pc ls rest)) : W p l e R s m args below meth c H locs cells slots Q (F0 m pc ls (.int x :: .int i :: .null :: rest)) := by
  intro T hT X
  obtain ⟨t, st, q⟩ := k T hT X
  exact ⟨t, X.castoreNull hexec (g := F0 m pc ls (.int x :: .int i :: .null :: rest)) rfl (rest := rest) rfl (by rw [hb]; exact hdg) t st, q⟩
theorem vx_sastoreN (hexec : p.tables.exec = Jvm.exec) (hb : c.code = cc) {x : Int32} {i : Int32} (hdg : decode cc pc = .ok (.sastore, 1)) (k : vx_NoteN p l e R s m args below meth c H locs cells slots Q (F0 m pc ls rest)) : W p l e R s m args below meth c H locs cells slots Q (F0 m pc ls (.int x :: .int i :: .null :: rest)) := by
  intro T hT X
  obtain ⟨t, st, q⟩ := k T hT X
  exact ⟨t, X.sastoreNull hexec (g := F0 m pc ls (.int x :: .int i :: .null :: rest)) rfl (rest := rest) rfl (by rw [hb]; exact hdg) t st, q⟩
theorem vx_invokeN {own C : String} {index maxL : Nat} {y : MethodName} {bytes : ByteArray} {ret : Option FieldType} (hexec : p.tables.exec = Jvm.exec) (hb : c.code = cc) (hown : s.vm.findClass own = some m.cls) (hlink : (Cond.methodLink own index y).before args s = true) (hinst : (Cond.instanceMethod y).before args s = true) (hcode : (Cond.code y bytes maxL ret).before args s = true) (hsel : (Cond.selects C y y).before args s = true)
    (hx : y.cls ≠ "java/lang/invoke/MethodHandle" ∧ y.cls ≠ "java/lang/invoke/VarHandle") {As : List Value} (hlen : (parseMethodDescriptor y.desc).map (fun d => d.parameters.length) = some As.length) (hdg : decode cc pc = .ok (.invokevirtual index, 3))
    (k : vx_NoteN p l e R s m args below meth c H locs cells slots Q (F0 m pc ls rest)) {st0 : List Value} (hst : st0 = As.reverse ++ .null :: rest) : W p l e R s m args below meth c H locs cells slots Q (F0 m pc ls st0) := by
  intro T hT X
  obtain ⟨r0, r, hn, hrm, hstR, hsigR⟩ := va_Decl.of hinst hcode
  obtain ⟨c2, r2, m2, q1, q2, q3, q4, kP, hkP, hkPi⟩ := Cond.selects_spec hsel
  cases hn.symm.trans q3
  have hl9 : As.length = r.sig.parameters.length := by
    rw [hsigR] at hlen
    exact (Option.some.inj hlen).symm
  obtain ⟨vm', X1, st1⟩ := X.invokevirtualNull hexec hown hlink hn hrm hstR hkP hkPi hx (g := F0 m pc ls st0) rfl (argsL := As) (rest := rest) hl9 hst (by rw [hb]; exact hdg)
  obtain ⟨t, st, q⟩ := k (T.setVm vm') hT X1
  exact ⟨t, st1 t st, q⟩
theorem vx_newarrayZ {atype : ArrayType} (hexec : p.tables.exec = Jvm.exec) (hb : c.code = cc) {n : Int32} (h0 : n < 0) (hdg : decode cc pc = .ok (.newarray atype, 2)) (k : ∀ tx : String, tx = toString n → vx_Note p l e R s m args below meth c H locs cells slots Q (F0 m pc ls rest) "java/lang/NegativeArraySizeException" tx) : W p l e R s m args below meth c H locs cells slots Q (F0 m pc ls (.int n :: rest)) := by
  intro T hT X
  obtain ⟨t, st, q⟩ := k _ rfl T hT X
  exact ⟨t, X.newarrayNegative hexec (g := F0 m pc ls (.int n :: rest)) rfl h0 (rest := rest) rfl (by rw [hb]; exact hdg) t st, q⟩
end
end VXM
/-! ===== END ===== -/
/-! ===== BEGIN an exception as an object: made, kept, thrown later (no traces kept) ===== -/
section VXK
variable {p : Program} {l : Launch} {e : Env} {R : Room} {s : State} {m₀ : MethodId} {args : Array Value} {below : List Frame} {meth : Method} {c : Code} {W : State} {locs : List Loc} {cells slots : Nat}
set_option maxHeartbeats 1000000 in
theorem vx_ctorMadeS (X : Stand p l e R s m₀ args below meth c W locs cells slots) (hexec : p.tables.exec = Jvm.exec) (htr : e.platform.stackTraces = false) {own cls : String} {names : List String} {ic : Nat}
    (hown : s.vm.findClass own = some m₀.cls) (hcls : Bundle.fit cls = true) (hnames : ∀ n ∈ names, Bundle.fit n = true)
    (h : ∀ a ∈ Bundle.ownAtoms own ic cls names, a.before args s = true)
    (hlocs : ∀ x ∈ locs, ∀ cell, s.heap[x.base]? = some cell → cell.vm.isStatics = false)
    {a : Addr} {cX : ClassId} {kX : Class} (hfoundX : s.vm.findClass cls = some cX) (hkX : s.vm.classes[cX]? = some kX) (hcell : W.heap[a]? = some (freshCell cX kX)) (hnew : s.heap.size ≤ a)
    {msg : Value} (hmsg : msg.isRef = true)
    {g : JFrame} (hg : g.method = m₀) (hsize : g.locals.size = c.maxLocals) {rest : List Value} (hstack : g.stack = msg :: .ref a :: .ref a :: rest)
    (hd6 : decode c.code g.pc = .ok (.invokespecial ic, 3))
    (hRframes : names.length + 3 < R.frames) (hRlocals : 2 * g.monitorRoom + ((Value.ref a :: rest).map fun v => v.category).sum + (13 * (names.length + 1) + 42) ≤ R.locals) :
    ∃ (V : State) (ce : Cell) (L : List Loc), Stand p l e R s m₀ args below meth c (V.setCell a ce) (locs ++ L) cells slots ∧ (∀ y ∈ L, y.base = a) ∧ a < V.heap.size ∧ ce.cls = cX ∧ ce.vm = .none ∧
      ∀ target, Steps p.tables e below ((V.setCell a ce).setTop { g with stack := .ref a :: rest, pc := g.pc + 3 }) target → Steps p.tables e below (W.setTop g) target := by
  have howns : e.platform.frameOwnsMonitors = true := by rw [X.admits.platform]
  have hfin : e.platform.finalization = false := by rw [X.admits.platform]
  have hpl : e.platform.magicAccessors = ({} : Platform).magicAccessors := by rw [X.admits.platform]
  have a' : ∀ x, x ∈ Bundle.ownAtoms own ic cls names → x.holds args s none s [] = true := fun x hx => h x hx
  obtain ⟨T, Z0, L, -, Y⟩ := ThrowableC.of_atoms (args := args) howns hfin hpl (fun x hx => h x (by simp [Bundle.ownAtoms, hx]))
  obtain ⟨Z, M, LZ, LM, hnZ⟩ := Init0T.ofS_atoms (args := args) hpl L Y (fun x hx => h x (by simp [Bundle.ownAtoms, hx]))
  obtain ⟨P1, Ps, hlen, L1, hL, hP1m, hlink1, hlink⟩ := Bundle.chainS (args := args) hpl hnZ names cls hcls hnames (fun x hx => h x (by simp [Bundle.ownAtoms, hx]))
  have hfound : s.vm.findClass cls = some P1.m.cls := findClass_of_methodNamed hP1m
  cases Option.some.inj (hfoundX.symm.trans hfound)
  obtain ⟨c1, kX', hc1, hk, hord, -, -, hn6⟩ := Cond.instantiable_spec (a' (.instantiable cls 6) (by simp [Bundle.ownAtoms]))
  cases Option.some.inj (hc1.symm.trans hfound)
  cases Option.some.inj (hkX.symm.trans hk)
  have hsel0 : selectMethod e.platform s.vm P1.m.cls T.fill0 = .method T.fill0 := by
    obtain ⟨c2, r2, m2, q1, q2, q3, q4, -⟩ := Cond.selects_spec (a' (.selects cls Bundle.tFill0 Bundle.tFill0) (by simp [Bundle.ownAtoms]))
    cases Option.some.inj (q1.symm.trans hfound)
    cases Option.some.inj (q2.symm.trans (State.methodFound?_of_named Y.fill0 (by decide)))
    cases Option.some.inj (q3.symm.trans Y.fill0)
    rw [Launch.admits_selectMethod X.admits]; exact q4
  have hselF : selectMethod e.platform s.vm P1.m.cls T.fill = .method T.fill := by
    obtain ⟨c2, r2, m2, q1, q2, q3, q4, -⟩ := Cond.selects_spec (a' (.selects cls Bundle.tFill Bundle.tFill) (by simp [Bundle.ownAtoms]))
    cases Option.some.inj (q1.symm.trans hfound)
    cases Option.some.inj (q2.symm.trans (State.methodFound?_of_named Y.fill (by decide)))
    cases Option.some.inj (q3.symm.trans Y.fill)
    rw [Launch.admits_selectMethod X.admits]; exact q4
  obtain ⟨cellS0, hcS0, hiss⟩ := Y.statics
  obtain ⟨u0, hu0⟩ := Cond.staticRefV Y.unassigned L.unassignedStatic L.statics hcS0 hiss (a' (.isRef (.static Bundle.tN "UNASSIGNED_STACK" Bundle.steD)) (by simp [Bundle.ownAtoms]))
  obtain ⟨sen, hsen⟩ := Cond.staticRefV Y.sentinel L.sentinelStatic L.statics hcS0 hiss (a' (.isRef (.static Bundle.tN "SUPPRESSED_SENTINEL" Bundle.listD)) (by simp [Bundle.ownAtoms]))
  obtain ⟨ci198, i198, fB, hk198, hg198, ha198, hsB, -, hnB, htB, hffB⟩ := Cond.ownField (t := .object "java/lang/Object") Y.found L.cls (by decide +kernel) (a' (.fieldLink Bundle.tN 198 Bundle.tN "backtrace" "Ljava/lang/Object;") (by simp [Bundle.ownAtoms])) (a' (.lays Bundle.tN Bundle.tN "backtrace" "Ljava/lang/Object;") (by simp [Bundle.ownAtoms])) e.platform hpl
  obtain ⟨cellS, hcS', heS, -, hkeep⟩ := X.same.2.2.2.2.2 T.aS cellS0 hcS0
  have hcellS : W.heap[T.aS]? = some cellS := hcS'
  have hout' : ∀ i, (⟨T.aS, i⟩ : Loc) ∉ locs := fun i hmem => by
    have := hlocs _ hmem cellS0 hcS0
    rw [hiss] at this; cases this
  have hknownS : cellS.vm ≠ .unknown := by
    rw [heS]; intro hu
    rw [show cellS0.vm = .unknown from hu] at hiss
    cases hiss
  have hneS : T.aS ≠ a := Nat.ne_of_lt (Nat.lt_of_lt_of_le (Array.getElem?_eq_some_iff.mp hcS0).1 hnew)
  obtain ⟨iM, hffM⟩ := Y.msg
  obtain ⟨tyC, dC, hdC, hdnC⟩ := Cond.laysAt hfound hk Y.cause (a' (.lays cls Bundle.tN "cause" "Ljava/lang/Throwable;") (by simp [Bundle.ownAtoms]))
  obtain ⟨tyS, dS, hdS, hdnS⟩ := Cond.laysAt hfound hk Y.stack (a' (.lays cls Bundle.tN "stackTrace" Bundle.steD) (by simp [Bundle.ownAtoms]))
  obtain ⟨tyP, dP, hdP, hdnP⟩ := Cond.laysAt hfound hk Y.supp (a' (.lays cls Bundle.tN "suppressedExceptions" Bundle.listD) (by simp [Bundle.ownAtoms]))
  obtain ⟨tyM, dM, hdM, hdnM⟩ := Cond.laysAt hfound hk hffM (a' (.lays cls Bundle.tN "detailMessage" "Ljava/lang/String;") (by simp [Bundle.ownAtoms]))
  obtain ⟨tyB, dB, hdB, hdnB⟩ := Cond.laysAt hfound hk hffB (a' (.lays cls Bundle.tN "backtrace" "Ljava/lang/Object;") (by simp [Bundle.ownAtoms]))
  have bC := Cond.laysApart hdB hdC hdnB hdnC (by rw [hnB, Y.causeName]; decide)
  have bS := Cond.laysApart hdB hdS hdnB hdnS (by rw [hnB, Y.stackName]; decide)
  have bP := Cond.laysApart hdB hdP hdnB hdnP (by rw [hnB, Y.suppName]; decide)
  have hskip : SkipFacts T e.platform s (fun u => u) u0 ((preparedCellV T.toThrowableT (freshCell P1.m.cls kX) a u0 sen).withEntry W.cur) :=
    ⟨{ ci198 := ci198, i198 := i198, fBack := fB }, ⟨hk198, hg198, ha198, hsB⟩, by
      have := fresh_default (c := P1.m.cls) tyB
      rw [htB] at this
      simpa [preparedCellV, Cell.setSlot, Cell.withEntry, Array.getElem?_setIfInBounds, bC, bS, bP, bC.symm, bS.symm, bP.symm, defaultValue] using this, fun _ _ => rfl⟩
  obtain ⟨tm, methC, cdC, kC, vm₁, hnC, -, -, -, -, -, -, -, hW₁, st1⟩ := Steps.initColdS (tb := p.tables) (e := e) (below := below) (s := s) (U := W) X.here hexec X.warmed hpl hown (t := Bundle.initS cls) rfl rfl (Bundle.fit_spec hcls).2
    (a' (.methodLink own ic (Bundle.initS cls)) (by simp [Bundle.ownAtoms])) (h (.instanceMethod (Bundle.initS cls)) (by cases names <;> simp [Bundle.ownAtoms, Bundle.chainSAtoms, Bundle.passSAtoms])) (bytes := Bundle.six) (maxL := 2) (h (.code (Bundle.initS cls) Bundle.six 2 none) (by cases names <;> simp [Bundle.ownAtoms, Bundle.chainSAtoms, Bundle.passSAtoms]))
    (f := g) hg (a := a) (msg := msg) (rest := .ref a :: rest) hstack hd6
  cases Option.some.inj (hnC.symm.trans hP1m)
  have X₁ := X.noted hW₁
  obtain ⟨vm₂, X₂, st2⟩ := X₁.ctorMessageOffV hexec (g := { g with stack := .ref a :: rest }) hg hsize T L Z LZ M LM (P1 :: Ps)
    (fun P hP => by rcases List.mem_cons.mp hP with rfl | hP; exact L1; exact hL P hP) ⟨hlink1, hlink⟩ (u0 := u0) (sen := sen) (self := a) hmsg (cell := freshCell P1.m.cls kX) (cellS := cellS)
    hcell (fun _ => by simp) (by simp) rfl rfl hsel0 hselF hcellS hneS hknownS (by rw [hkeep _ (hout' _)]; exact hu0) (by rw [hkeep _ (hout' _)]; exact hsen)
    (Takes.of_laid hk hord tyC (by rw [Y.causeType]; rfl)) (Takes.of_laid hk hord tyS (by rw [Y.stackType]; exact fits_refV_array _ u0)) (Takes.of_laid hk hord tyP (by rw [Y.suppType]; exact fits_refV_object _ sen))
    (Takes.of_laid hk hord tyM (by rw [Y.msgType]; exact fits_refV_object _ ⟨msg, hmsg⟩)) Y.objLocals hskip htr [] hd6
    (by simp only [List.length_cons, hlen]; omega) (by simp only [List.length_cons, hlen]; exact hRlocals)
  have hlt : a < ((W.setVm vm₁).setVm vm₂).heap.size := (Array.getElem?_eq_some_iff.mp hcell).1
  refine ⟨(W.setVm vm₁).setVm vm₂, _, _, X₂, fun y hy => ?_, hlt, rfl, rfl, fun target hwalk => st1 _ (fun acts => ?_)⟩
  · simp only [List.mem_cons, List.not_mem_nil, or_false] at hy
    rcases hy with rfl | rfl | rfl | rfl | rfl <;> rfl
  · rw [doInvoke_state]
    exact st2 _ hwalk
set_option maxHeartbeats 1000000 in
theorem vx_ctorMade0 (X : Stand p l e R s m₀ args below meth c W locs cells slots) (hexec : p.tables.exec = Jvm.exec) (htr : e.platform.stackTraces = false) {own cls : String} {names : List String} {ic : Nat}
    (hown : s.vm.findClass own = some m₀.cls) (hcls : Bundle.fit cls = true) (hnames : ∀ n ∈ names, Bundle.fit n = true)
    (h : ∀ a ∈ Bundle.ownAtoms0 own ic cls names, a.before args s = true)
    (hlocs : ∀ x ∈ locs, ∀ cell, s.heap[x.base]? = some cell → cell.vm.isStatics = false)
    {a : Addr} {cX : ClassId} {kX : Class} (hfoundX : s.vm.findClass cls = some cX) (hkX : s.vm.classes[cX]? = some kX) (hcell : W.heap[a]? = some (freshCell cX kX)) (hnew : s.heap.size ≤ a)
    {g : JFrame} (hg : g.method = m₀) (hsize : g.locals.size = c.maxLocals) {rest : List Value} (hstack : g.stack = .ref a :: .ref a :: rest)
    (hd6 : decode c.code g.pc = .ok (.invokespecial ic, 3))
    (hRframes : names.length + 3 < R.frames) (hRlocals : 2 * g.monitorRoom + ((Value.ref a :: rest).map fun v => v.category).sum + (13 * (names.length + 1) + 41) ≤ R.locals) :
    ∃ (V : State) (ce : Cell) (L : List Loc), Stand p l e R s m₀ args below meth c (V.setCell a ce) (locs ++ L) cells slots ∧ (∀ y ∈ L, y.base = a) ∧ a < V.heap.size ∧ ce.cls = cX ∧ ce.vm = .none ∧
      ∀ target, Steps p.tables e below ((V.setCell a ce).setTop { g with stack := .ref a :: rest, pc := g.pc + 3 }) target → Steps p.tables e below (W.setTop g) target := by
  have howns : e.platform.frameOwnsMonitors = true := by rw [X.admits.platform]
  have hfin : e.platform.finalization = false := by rw [X.admits.platform]
  have hpl : e.platform.magicAccessors = ({} : Platform).magicAccessors := by rw [X.admits.platform]
  have a' : ∀ x, x ∈ Bundle.ownAtoms0 own ic cls names → x.holds args s none s [] = true := fun x hx => h x hx
  obtain ⟨T, Z, L, LZ, Y⟩ := ThrowableC.of_atoms (args := args) howns hfin hpl (fun x hx => h x (by simp [Bundle.ownAtoms0, hx]))
  obtain ⟨P1, Ps, hlen, L1, hL, hP1m, hlink1, hlink⟩ := Bundle.chain0 (args := args) hpl Y.init0 names cls hcls hnames (fun x hx => h x (by simp [Bundle.ownAtoms0, hx]))
  have hfound : s.vm.findClass cls = some P1.m.cls := findClass_of_methodNamed hP1m
  cases Option.some.inj (hfoundX.symm.trans hfound)
  obtain ⟨c1, kX', hc1, hk, hord, -, -, hn6⟩ := Cond.instantiable_spec (a' (.instantiable cls 6) (by simp [Bundle.ownAtoms0]))
  cases Option.some.inj (hc1.symm.trans hfound)
  cases Option.some.inj (hkX.symm.trans hk)
  have hsel0 : selectMethod e.platform s.vm P1.m.cls T.fill0 = .method T.fill0 := by
    obtain ⟨c2, r2, m2, q1, q2, q3, q4, -⟩ := Cond.selects_spec (a' (.selects cls Bundle.tFill0 Bundle.tFill0) (by simp [Bundle.ownAtoms0]))
    cases Option.some.inj (q1.symm.trans hfound)
    cases Option.some.inj (q2.symm.trans (State.methodFound?_of_named Y.fill0 (by decide)))
    cases Option.some.inj (q3.symm.trans Y.fill0)
    rw [Launch.admits_selectMethod X.admits]; exact q4
  have hselF : selectMethod e.platform s.vm P1.m.cls T.fill = .method T.fill := by
    obtain ⟨c2, r2, m2, q1, q2, q3, q4, -⟩ := Cond.selects_spec (a' (.selects cls Bundle.tFill Bundle.tFill) (by simp [Bundle.ownAtoms0]))
    cases Option.some.inj (q1.symm.trans hfound)
    cases Option.some.inj (q2.symm.trans (State.methodFound?_of_named Y.fill (by decide)))
    cases Option.some.inj (q3.symm.trans Y.fill)
    rw [Launch.admits_selectMethod X.admits]; exact q4
  obtain ⟨cellS0, hcS0, hiss⟩ := Y.statics
  obtain ⟨u0, hu0⟩ := Cond.staticRefV Y.unassigned L.unassignedStatic L.statics hcS0 hiss (a' (.isRef (.static Bundle.tN "UNASSIGNED_STACK" Bundle.steD)) (by simp [Bundle.ownAtoms0]))
  obtain ⟨sen, hsen⟩ := Cond.staticRefV Y.sentinel L.sentinelStatic L.statics hcS0 hiss (a' (.isRef (.static Bundle.tN "SUPPRESSED_SENTINEL" Bundle.listD)) (by simp [Bundle.ownAtoms0]))
  obtain ⟨ci198, i198, fB, hk198, hg198, ha198, hsB, -, hnB, htB, hffB⟩ := Cond.ownField (t := .object "java/lang/Object") Y.found L.cls (by decide +kernel) (a' (.fieldLink Bundle.tN 198 Bundle.tN "backtrace" "Ljava/lang/Object;") (by simp [Bundle.ownAtoms0])) (a' (.lays Bundle.tN Bundle.tN "backtrace" "Ljava/lang/Object;") (by simp [Bundle.ownAtoms0])) e.platform hpl
  obtain ⟨cellS, hcS', heS, -, hkeep⟩ := X.same.2.2.2.2.2 T.aS cellS0 hcS0
  have hcellS : W.heap[T.aS]? = some cellS := hcS'
  have hout' : ∀ i, (⟨T.aS, i⟩ : Loc) ∉ locs := fun i hmem => by
    have := hlocs _ hmem cellS0 hcS0
    rw [hiss] at this; cases this
  have hknownS : cellS.vm ≠ .unknown := by
    rw [heS]; intro hu
    rw [show cellS0.vm = .unknown from hu] at hiss
    cases hiss
  have hneS : T.aS ≠ a := Nat.ne_of_lt (Nat.lt_of_lt_of_le (Array.getElem?_eq_some_iff.mp hcS0).1 hnew)
  obtain ⟨iM, hffM⟩ := Y.msg
  obtain ⟨tyC, dC, hdC, hdnC⟩ := Cond.laysAt hfound hk Y.cause (a' (.lays cls Bundle.tN "cause" "Ljava/lang/Throwable;") (by simp [Bundle.ownAtoms0]))
  obtain ⟨tyS, dS, hdS, hdnS⟩ := Cond.laysAt hfound hk Y.stack (a' (.lays cls Bundle.tN "stackTrace" Bundle.steD) (by simp [Bundle.ownAtoms0]))
  obtain ⟨tyP, dP, hdP, hdnP⟩ := Cond.laysAt hfound hk Y.supp (a' (.lays cls Bundle.tN "suppressedExceptions" Bundle.listD) (by simp [Bundle.ownAtoms0]))
  obtain ⟨tyM, dM, hdM, hdnM⟩ := Cond.laysAt hfound hk hffM (a' (.lays cls Bundle.tN "detailMessage" "Ljava/lang/String;") (by simp [Bundle.ownAtoms0]))
  obtain ⟨tyB, dB, hdB, hdnB⟩ := Cond.laysAt hfound hk hffB (a' (.lays cls Bundle.tN "backtrace" "Ljava/lang/Object;") (by simp [Bundle.ownAtoms0]))
  have bC := Cond.laysApart hdB hdC hdnB hdnC (by rw [hnB, Y.causeName]; decide)
  have bS := Cond.laysApart hdB hdS hdnB hdnS (by rw [hnB, Y.stackName]; decide)
  have bP := Cond.laysApart hdB hdP hdnB hdnP (by rw [hnB, Y.suppName]; decide)
  have hskip : SkipFacts T e.platform s (fun u => u) u0 ((preparedCellV T.toThrowableT (freshCell P1.m.cls kX) a u0 sen).withEntry W.cur) :=
    ⟨{ ci198 := ci198, i198 := i198, fBack := fB }, ⟨hk198, hg198, ha198, hsB⟩, by
      have := fresh_default (c := P1.m.cls) tyB
      rw [htB] at this
      simpa [preparedCellV, Cell.setSlot, Cell.withEntry, Array.getElem?_setIfInBounds, bC, bS, bP, bC.symm, bS.symm, bP.symm, defaultValue] using this, fun _ _ => rfl⟩
  obtain ⟨tm, methC, cdC, kC, vm₁, hnC, -, -, -, -, -, -, -, hW₁, st1⟩ := Steps.initCold (tb := p.tables) (e := e) (below := below) (s := s) (U := W) X.here hexec X.warmed hpl hown (t := Bundle.init0 cls) rfl rfl (Bundle.fit_spec hcls).2
    (a' (.methodLink own ic (Bundle.init0 cls)) (by simp [Bundle.ownAtoms0])) (h (.instanceMethod (Bundle.init0 cls)) (by cases names <;> simp [Bundle.ownAtoms0, Bundle.chain0Atoms, Bundle.passAtoms])) (bytes := Bundle.five) (maxL := 1) (h (.code (Bundle.init0 cls) Bundle.five 1 none) (by cases names <;> simp [Bundle.ownAtoms0, Bundle.chain0Atoms, Bundle.passAtoms]))
    (f := g) hg (a := a) (rest := .ref a :: rest) hstack hd6
  cases Option.some.inj (hnC.symm.trans hP1m)
  have X₁ := X.noted hW₁
  obtain ⟨vm₂, X₂, st2⟩ := X₁.ctorPlainOffV hexec (g := { g with stack := .ref a :: rest }) hg hsize T L Z LZ (P1 :: Ps)
    (fun P hP => by rcases List.mem_cons.mp hP with rfl | hP; exact L1; exact hL P hP) ⟨hlink1, hlink⟩ (u0 := u0) (sen := sen) (self := a) (cell := freshCell P1.m.cls kX) (cellS := cellS)
    hcell (fun _ => by simp) (by simp) rfl rfl hsel0 hselF hcellS hneS hknownS (by rw [hkeep _ (hout' _)]; exact hu0) (by rw [hkeep _ (hout' _)]; exact hsen)
    (Takes.of_laid hk hord tyC (by rw [Y.causeType]; rfl)) (Takes.of_laid hk hord tyS (by rw [Y.stackType]; exact fits_refV_array _ u0)) (Takes.of_laid hk hord tyP (by rw [Y.suppType]; exact fits_refV_object _ sen)) Y.objLocals hskip htr [] hd6
    (by simp only [List.length_cons, hlen]; omega) (by simp only [List.length_cons, hlen]; exact hRlocals)
  have hlt : a < ((W.setVm vm₁).setVm vm₂).heap.size := (Array.getElem?_eq_some_iff.mp hcell).1
  refine ⟨(W.setVm vm₁).setVm vm₂, _, _, X₂, fun y hy => ?_, hlt, rfl, rfl, fun target hwalk => st1 _ (fun acts => ?_)⟩
  · simp only [List.mem_cons, List.not_mem_nil, or_false] at hy
    rcases hy with rfl | rfl | rfl | rfl <;> rfl
  · rw [doInvoke_state]
    exact st2 _ hwalk
end VXK
section VXK2
variable {p : Program} {l : Launch} {e : Env} {R : Room} {s : State} {m : MethodId} {args : Array Value} {below : List Frame} {meth : Method} {c : Code} {H : Heap} {locs : List Loc} {cells slots : Nat} {Q : State → Prop}
variable {ls : Array Slot} {rest : List Value} {D : va_G} {cl : List vw_C} {tys : List (ClassId × FieldType)} {ws : va_W}
/-- 'new E("text")' that isn't thrown at once: the object goes on the stack -/
theorem vx_makeS {cc : ByteArray} {pc : Nat} (hexec : p.tables.exec = Jvm.exec) (hb : c.code = cc) (hl : l.stackTraces = false) {own cls text : String} {names : List String} {ik is ic sa ci : Nat} {A : Nat → Prop} {T0 : u_T}
    (hown : s.vm.findClass own = some m.cls) (hcls : Bundle.fit cls = true) (hnames : ∀ n ∈ names, Bundle.fit n = true)
    (hk : (Cond.classLink own ik cls).before args s = true) (hini : (Cond.initialized cls).before args s = true) (hstr : vk_R own is text sa s) (hat : ∀ w ∈ vx_atS own ic cls names, w.before args s = true)
    (hgood : ∀ w ∈ Cond.classLink own ik cls :: Cond.initialized cls :: vx_atS own ic cls names, vx_ot w = true)
    (hU : vx_Zq Bundle.tN "UNASSIGNED_STACK" Bundle.steD A s s.heap) (hN : vx_Zq Bundle.tN "SUPPRESSED_SENTINEL" Bundle.listD A s s.heap) (hS : va_S A s.heap H locs) (hsize : ls.size = c.maxLocals)
    (d0 : decode cc pc = .ok (.new ik, 3)) (d3 : decode cc (pc + 3) = .ok (.dup, 1)) (d4 : decode cc (pc + 4) = .ok (.ldc is, 2)) (d6 : decode cc (pc + 6) = .ok (.invokespecial ic, 3))
    (hK : va_K D cl tys s) (hP : va_P D cl ws H) (hD : va_D A ws) (hA : ∀ q, s.heap.size ≤ q → A q) (hc : cl[ci]? = some (cls, T0, 0))
    (hRframes : names.length + 3 < R.frames) (hRlocals : (rest.map fun v => v.category).sum + (13 * (names.length + 1) + 43) ≤ R.locals) (hRcells : cells + 1 ≤ R.cells) (hRslots : slots + 6 ≤ R.slots)
    (kk : ∀ (q : Nat) (H1 : Heap), va_P D cl (ws ++ [(q, .inr (ci, []))]) H1 → va_D A (ws ++ [(q, .inr (ci, []))]) → va_S A s.heap H1 locs → W p l e R s m args below meth c H1 locs (cells + 1) (slots + 6) Q (F0 m (pc + 9) ls (.ref q :: rest))) :
    W p l e R s m args below meth c H locs cells slots Q (F0 m pc ls rest) := by
  intro T hT X
  subst hT
  have htr : e.platform.stackTraces = false := (show e.platform.stackTraces = l.stackTraces by rw [X.admits.platform]).trans hl
  have Y := vx_rebase X (R' := { frames := R.frames, locals := R.locals, cells := 1, slots := 6 }) (Nat.le_refl _) (Nat.le_refl _) hRcells hRslots
  obtain ⟨s', hA'⟩ : ∃ z, z = (T.setVm s.vm).setFrames (.invoking m args :: below) := ⟨_, rfl⟩
  rw [← hA'] at Y
  have hvm : s'.vm = s.vm := by rw [hA']; rfl
  have hhp : s'.heap = T.heap := by rw [hA']; rfl
  have hW0 : s.WarmedH s'.vm := by rw [hvm]; exact State.WarmedH.refl s
  have hat' : ∀ w ∈ vx_atS own ic cls names, w.before args s' = true := fun w hw => vx_ot_at hW0 hvm.symm (hgood w (List.mem_cons_of_mem _ (List.mem_cons_of_mem _ hw))) (hat w hw)
  have hk' : (Cond.classLink own ik cls).before args s' = true := vx_ot_at hW0 hvm.symm (hgood _ List.mem_cons_self) hk
  have hini' : (Cond.initialized cls).before args s' = true := vx_ot_at hW0 hvm.symm (hgood _ (List.mem_cons_of_mem _ List.mem_cons_self)) hini
  have hU' : vx_Zq Bundle.tN "UNASSIGNED_STACK" Bundle.steD A s' s'.heap := by rw [hhp]; exact vx_Zq.moved hW0.alike (hU.kept hS.2.1)
  have hN' : vx_Zq Bundle.tN "SUPPRESSED_SENTINEL" Bundle.listD A s' s'.heap := by rw [hhp]; exact vx_Zq.moved hW0.alike (hN.kept hS.2.1)
  have h : ∀ w ∈ Bundle.ownAtoms own ic cls names, w.before args s' = true := vx_own hat' (vx_isRefq hU'.1) (vx_isRefq hN'.1) hU'.2.word hN'.2.word
  have hown' : s'.vm.findClass own = some m.cls := by rw [hvm]; exact hown
  have hins : (Cond.instantiable cls 6).before args s' = true := h _ (by simp [Bundle.ownAtoms])
  obtain ⟨vm₁, cX, kX, hfX, hkX, -, -, X₁, st1⟩ := Y.newCold hexec (own := own) (C := cls) (index := ik) (n := 6) hown' hk' hins hini'
    (g := F0 m pc ls rest) rfl (by rw [hb]; exact d0) (Nat.le_refl _) (Nat.le_refl _)
  generalize hT1 : (T.setVm vm₁).pushCell { cls := cX, slots := kX.instanceTypes.map defaultValue, vm := .none } = T1 at X₁ st1
  have hcat : (Value.ref T.heap.size).category = 1 := rfl
  have hcellA : T1.heap[T.heap.size]? = some (freshCell cX kX) := by rw [← hT1]; exact State.heap_pushCell_size _ _
  have d3' : decode c.code (pc + 3) = .ok (.dup, 1) := by rw [hb]; exact d3
  have d4' : decode c.code (pc + 4) = .ok (.ldc is, 2) := by rw [hb]; exact d4
  have hstr' : vk_R own is text sa s' := vk_R.warm hW0 hstr
  obtain ⟨V, ce, L, Z, hL, hlt, hcl9, hvm9, st⟩ := vx_ctorMadeS X₁ hexec htr (own := own) (cls := cls) (names := names) (ic := ic) hown' hcls hnames h (fun x hx => nomatch hx) hfX hkX hcellA (by rw [hhp]; exact Nat.le_refl _) (msg := .ref sa) rfl
    (g := { method := m, pc := pc + 6, locals := ls, stack := .ref sa :: .ref T.heap.size :: .ref T.heap.size :: rest, locked := none }) rfl hsize (rest := rest) rfl
    (by rw [hb]; exact d6) hRframes (by simp only [List.map_cons, List.sum_cons, hcat]; omega)
  have Z0 := Stand.forget (locs := []) Z (fun y hy => by rw [hL y hy, hhp]; exact Nat.le_refl _)
  obtain ⟨f1, f2⟩ := vx_frame Z0.same
  rw [hhp] at f1 f2
  have hcid : ce.cls = D.1 ci := by
    rw [hcl9]
    have h1 := (hK.1 ci _ hc).2.1
    rw [hvm] at hfX
    exact Option.some.inj (hfX.symm.trans h1)
  have hh : (V.setCell T.heap.size ce).heap[T.heap.size]? = some ce := heapAt_setCell_self (s := V) ce hlt
  subst hA'
  have X5 := vx_back9 X Y Z0
  have X6 : Stand p l e R s m args below meth c (V.setCell T.heap.size ce) locs (cells + 1) (slots + 6) := { X5 with same := X5.same.mono (by omega) (by omega) }
  have hk9 : ∀ (k : Nat) (x : Nat × va_E), ws[k]? = some x → (V.setCell T.heap.size ce).heap[x.1]? = T.heap[x.1]? := fun k x hx => f2 x.1 ((hP k x hx).lt) (fun z hz => nomatch hz)
  obtain ⟨t, a1, b1⟩ := kk T.heap.size (V.setCell T.heap.size ce).heap ((hP.kept hk9).app (fun k x hx => by
      have hz : k < 1 := (List.getElem?_eq_some_iff.mp hx).1
      rw [show k = 0 by omega] at hx
      cases hx
      exact ⟨_, hc, ce, hh, hcid, hvm9, fun k hk => absurd hk (Nat.not_lt_zero k)⟩)) (hD.push hP rfl (hA _ hS.1)) ⟨Nat.le_trans hS.1 f1, fun q h1 h2 => (f2 q (Nat.lt_of_lt_of_le h1 hS.1) (fun z hz => nomatch hz)).trans (hS.2.1 q h1 h2), hS.2.2⟩ _ rfl X6
  refine ⟨t, st1 _ ?_, b1⟩
  show Steps p.tables e below (T1.setTop { method := m, pc := pc + 3, locals := ls, stack := .ref T.heap.size :: rest, locked := none }) _
  jvm_step X₁.here [X₁.here.top, hexec, d3', Value.category]
  exact X₁.ldcString hexec (own := own) (text := text) (index := is) (a := sa) hown' hstr'.1 hstr'.2
    (g := { method := m, pc := pc + 4, locals := ls, stack := .ref T.heap.size :: .ref T.heap.size :: rest, locked := none }) rfl d4' _ (st _ a1)
/-- 'new E()' that isn't thrown at once: the object goes on the stack -/
theorem vx_make0 {cc : ByteArray} {pc : Nat} (hexec : p.tables.exec = Jvm.exec) (hb : c.code = cc) (hl : l.stackTraces = false) {own cls : String} {names : List String} {ik ic ci : Nat} {A : Nat → Prop} {T0 : u_T}
    (hown : s.vm.findClass own = some m.cls) (hcls : Bundle.fit cls = true) (hnames : ∀ n ∈ names, Bundle.fit n = true)
    (hk : (Cond.classLink own ik cls).before args s = true) (hini : (Cond.initialized cls).before args s = true) (hat : ∀ w ∈ vx_at0 own ic cls names, w.before args s = true)
    (hgood : ∀ w ∈ Cond.classLink own ik cls :: Cond.initialized cls :: vx_at0 own ic cls names, vx_ot w = true)
    (hU : vx_Zq Bundle.tN "UNASSIGNED_STACK" Bundle.steD A s s.heap) (hN : vx_Zq Bundle.tN "SUPPRESSED_SENTINEL" Bundle.listD A s s.heap) (hS : va_S A s.heap H locs) (hsize : ls.size = c.maxLocals)
    (d0 : decode cc pc = .ok (.new ik, 3)) (d3 : decode cc (pc + 3) = .ok (.dup, 1)) (d4 : decode cc (pc + 4) = .ok (.invokespecial ic, 3))
    (hK : va_K D cl tys s) (hP : va_P D cl ws H) (hD : va_D A ws) (hA : ∀ q, s.heap.size ≤ q → A q) (hc : cl[ci]? = some (cls, T0, 0))
    (hRframes : names.length + 3 < R.frames) (hRlocals : (rest.map fun v => v.category).sum + (13 * (names.length + 1) + 42) ≤ R.locals) (hRcells : cells + 1 ≤ R.cells) (hRslots : slots + 6 ≤ R.slots)
    (kk : ∀ (q : Nat) (H1 : Heap), va_P D cl (ws ++ [(q, .inr (ci, []))]) H1 → va_D A (ws ++ [(q, .inr (ci, []))]) → va_S A s.heap H1 locs → W p l e R s m args below meth c H1 locs (cells + 1) (slots + 6) Q (F0 m (pc + 7) ls (.ref q :: rest))) :
    W p l e R s m args below meth c H locs cells slots Q (F0 m pc ls rest) := by
  intro T hT X
  subst hT
  have htr : e.platform.stackTraces = false := (show e.platform.stackTraces = l.stackTraces by rw [X.admits.platform]).trans hl
  have Y := vx_rebase X (R' := { frames := R.frames, locals := R.locals, cells := 1, slots := 6 }) (Nat.le_refl _) (Nat.le_refl _) hRcells hRslots
  obtain ⟨s', hA'⟩ : ∃ z, z = (T.setVm s.vm).setFrames (.invoking m args :: below) := ⟨_, rfl⟩
  rw [← hA'] at Y
  have hvm : s'.vm = s.vm := by rw [hA']; rfl
  have hhp : s'.heap = T.heap := by rw [hA']; rfl
  have hW0 : s.WarmedH s'.vm := by rw [hvm]; exact State.WarmedH.refl s
  have hat' : ∀ w ∈ vx_at0 own ic cls names, w.before args s' = true := fun w hw => vx_ot_at hW0 hvm.symm (hgood w (List.mem_cons_of_mem _ (List.mem_cons_of_mem _ hw))) (hat w hw)
  have hk' : (Cond.classLink own ik cls).before args s' = true := vx_ot_at hW0 hvm.symm (hgood _ List.mem_cons_self) hk
  have hini' : (Cond.initialized cls).before args s' = true := vx_ot_at hW0 hvm.symm (hgood _ (List.mem_cons_of_mem _ List.mem_cons_self)) hini
  have hU' : vx_Zq Bundle.tN "UNASSIGNED_STACK" Bundle.steD A s' s'.heap := by rw [hhp]; exact vx_Zq.moved hW0.alike (hU.kept hS.2.1)
  have hN' : vx_Zq Bundle.tN "SUPPRESSED_SENTINEL" Bundle.listD A s' s'.heap := by rw [hhp]; exact vx_Zq.moved hW0.alike (hN.kept hS.2.1)
  have h : ∀ w ∈ Bundle.ownAtoms0 own ic cls names, w.before args s' = true := vx_own hat' (vx_isRefq hU'.1) (vx_isRefq hN'.1) hU'.2.word hN'.2.word
  have hown' : s'.vm.findClass own = some m.cls := by rw [hvm]; exact hown
  have hins : (Cond.instantiable cls 6).before args s' = true := h _ (by simp [Bundle.ownAtoms0])
  obtain ⟨vm₁, cX, kX, hfX, hkX, -, -, X₁, st1⟩ := Y.newCold hexec (own := own) (C := cls) (index := ik) (n := 6) hown' hk' hins hini'
    (g := F0 m pc ls rest) rfl (by rw [hb]; exact d0) (Nat.le_refl _) (Nat.le_refl _)
  generalize hT1 : (T.setVm vm₁).pushCell { cls := cX, slots := kX.instanceTypes.map defaultValue, vm := .none } = T1 at X₁ st1
  have hcat : (Value.ref T.heap.size).category = 1 := rfl
  have hcellA : T1.heap[T.heap.size]? = some (freshCell cX kX) := by rw [← hT1]; exact State.heap_pushCell_size _ _
  have d3' : decode c.code (pc + 3) = .ok (.dup, 1) := by rw [hb]; exact d3
  obtain ⟨V, ce, L, Z, hL, hlt, hcl9, hvm9, st⟩ := vx_ctorMade0 X₁ hexec htr (own := own) (cls := cls) (names := names) (ic := ic) hown' hcls hnames h (fun x hx => nomatch hx) hfX hkX hcellA (by rw [hhp]; exact Nat.le_refl _)
    (g := { method := m, pc := pc + 4, locals := ls, stack := .ref T.heap.size :: .ref T.heap.size :: rest, locked := none }) rfl hsize (rest := rest) rfl
    (by rw [hb]; exact d4) hRframes (by simp only [List.map_cons, List.sum_cons, hcat]; omega)
  have Z0 := Stand.forget (locs := []) Z (fun y hy => by rw [hL y hy, hhp]; exact Nat.le_refl _)
  obtain ⟨f1, f2⟩ := vx_frame Z0.same
  rw [hhp] at f1 f2
  have hcid : ce.cls = D.1 ci := by
    rw [hcl9]
    have h1 := (hK.1 ci _ hc).2.1
    rw [hvm] at hfX
    exact Option.some.inj (hfX.symm.trans h1)
  have hh : (V.setCell T.heap.size ce).heap[T.heap.size]? = some ce := heapAt_setCell_self (s := V) ce hlt
  subst hA'
  have X5 := vx_back9 X Y Z0
  have X6 : Stand p l e R s m args below meth c (V.setCell T.heap.size ce) locs (cells + 1) (slots + 6) := { X5 with same := X5.same.mono (by omega) (by omega) }
  have hk9 : ∀ (k : Nat) (x : Nat × va_E), ws[k]? = some x → (V.setCell T.heap.size ce).heap[x.1]? = T.heap[x.1]? := fun k x hx => f2 x.1 ((hP k x hx).lt) (fun z hz => nomatch hz)
  obtain ⟨t, a1, b1⟩ := kk T.heap.size (V.setCell T.heap.size ce).heap ((hP.kept hk9).app (fun k x hx => by
      have hz : k < 1 := (List.getElem?_eq_some_iff.mp hx).1
      rw [show k = 0 by omega] at hx
      cases hx
      exact ⟨_, hc, ce, hh, hcid, hvm9, fun k hk => absurd hk (Nat.not_lt_zero k)⟩)) (hD.push hP rfl (hA _ hS.1)) ⟨Nat.le_trans hS.1 f1, fun q h1 h2 => (f2 q (Nat.lt_of_lt_of_le h1 hS.1) (fun z hz => nomatch hz)).trans (hS.2.1 q h1 h2), hS.2.2⟩ _ rfl X6
  refine ⟨t, st1 _ ?_, b1⟩
  show Steps p.tables e below (T1.setTop { method := m, pc := pc + 3, locals := ls, stack := .ref T.heap.size :: rest, locked := none }) _
  jvm_step X₁.here [X₁.here.top, hexec, d3', Value.category]
  exact st _ a1
/-- 'throw x' of an object that was made before -/
theorem vx_athrow {cc : ByteArray} {pc : Nat} (hexec : p.tables.exec = Jvm.exec) (hb : c.code = cc) {q : Addr} (hdg : decode cc pc = .ok (.athrow, 1)) (k : vx_W p l e R s m args below meth c H locs cells slots Q (F0 m pc ls rest) q) : W p l e R s m args below meth c H locs cells slots Q (F0 m pc ls (.ref q :: rest)) := by
  intro T hT X
  obtain ⟨t, st, hq⟩ := k T hT X
  refine ⟨t, ?_, hq⟩
  have hdg' : decode c.code pc = .ok (.athrow, 1) := by rw [hb]; exact hdg
  jvm_step X.here [X.here.top, hexec, hdg', athrow.wp_sem]
  exact st
end VXK2
/-! ===== END ===== -/
/-! ===== BEGIN a constructor that throws (launches without stack traces) ===== -/
section VXIA
variable {p : Program} {l : Launch} {e : Env} {R : Room} {s : State} {m : MethodId} {args : Array Value} {below : List Frame} {meth : Method} {c : Code} {T : State} {locs : List Loc} {cells slots : Nat}
theorem vx_callI (X : Stand p l e R s m args below meth c T locs cells slots) (hexec : p.tables.exec = Jvm.exec) {own : String} {index : Nat} {y : MethodName} {bytes : ByteArray} {maxL : Nat}
    (hown : s.vm.findClass own = some m.cls) (hy1 : y.name = "<init>") (hlink : (Cond.methodLink own index y).before args s = true) (hinst : (Cond.instanceMethod y).before args s = true)
    (hcode : (Cond.code y bytes maxL none).before args s = true) (hy : y.cls ≠ "java/lang/invoke/MethodHandle" ∧ y.cls ≠ "java/lang/invoke/VarHandle")
    {W9 : Nat} {Pre : Pt → Array Value → Prop} {Post : Pt → Array Value → Option Value → Pt → Prop} {PostX : Pt → Array Value → Addr → Pt → Prop} (hK : vx_Back l R p e below s args y 3 W9 Pre Post PostX)
    {g : JFrame} (hg : g.method = m) (hsize : g.locals.size = c.maxLocals) {a : Addr} {argsL rest : List Value} (hlen : ∀ sig, parseMethodDescriptor y.desc = some sig → argsL.length = sig.parameters.length)
    (hstack : g.stack = argsL.reverse ++ .ref a :: rest) (hW : 2 * g.monitorRoom + (rest.map fun v => v.category).sum ≤ W9) (hdg : decode c.code g.pc = .ok (.invokespecial index, 3))
    (hpre : ∀ vm₁, s.WarmedH vm₁ → Pre ⟨T.setVm vm₁, locs, cells, slots⟩ (Value.ref a :: argsL).toArray) :
    (∃ (v : Option Value) (vm₁ : Vm) (B : Pt), s.WarmedH vm₁ ∧ Stand p l e R s m args below meth c B.U B.locs B.cells B.slots ∧ Post ⟨T.setVm vm₁, locs, cells, slots⟩ (Value.ref a :: argsL).toArray v B ∧
      ∀ target, Steps p.tables e below (B.U.setTop { g with pc := g.pc + 3, stack := v.toList ++ rest }) target → Steps p.tables e below (T.setTop g) target) ∨
    (∃ (q : Addr) (vm₁ : Vm) (B : Pt), s.WarmedH vm₁ ∧ Stand p l e R s m args below meth c B.U B.locs B.cells B.slots ∧ PostX ⟨T.setVm vm₁, locs, cells, slots⟩ (Value.ref a :: argsL).toArray q B ∧
      Steps p.tables e below (T.setTop g) ((B.U.setTop { g with stack := rest }).pushFrame (.throwing q))) := by
  subst hg
  have hpl : e.platform.magicAccessors = ({} : Platform).magicAccessors := by rw [X.admits.platform]
  obtain ⟨mk, methM, cM, kP, vm₁, hnamed, hmethM, hcodeM, -, hlocalsM, -, hkP, -, hW₁, hstep₁⟩ := Steps.initColdArgs (e := e) X.here hexec X.warmed hpl hown hy1 hy hlink hinst hcode (f := g) rfl hlen hstack hdg
  have X₁ := X.noted hW₁
  rcases hK g.method meth c ⟨T.setVm vm₁, locs, cells, slots⟩ { g with stack := rest } (.invokespecial index) mk (Value.ref a :: argsL).toArray X₁ rfl hsize hdg hW (X₁.named hnamed) (hpre vm₁ X₁.warmed) with ⟨v, B, X', hpost, hsteps⟩ | ⟨q, B, X', hpost, hsteps⟩
  · exact Or.inl ⟨v, vm₁, B, X₁.warmed, X', hpost, fun target h => hstep₁ _ fun acts => by rw [doInvoke_state]; exact hsteps.trans h⟩
  · exact Or.inr ⟨q, vm₁, B, X₁.warmed, X', hpost, hstep₁ _ fun acts => by rw [doInvoke_state]; exact hsteps⟩
end VXIA
section VXIB
variable {p : Program} {l : Launch} {e : Env} {R : Room} {s : State} {m : MethodId} {args : Array Value} {below : List Frame} {meth : Method} {c : Code} {H : Heap} {locs : List Loc} {cells slots : Nat}
variable {y : MethodName} {bytes cc : ByteArray} {maxL nL mc ms n index : Nat} {ret : Option FieldType} {ws : List Cond} {rm : Room} {Pc : Array Value → State → Prop} {Qc : Array Value → State → Outcome → State → Prop} {XC : String → State → State → Prop} {free : Addr → Prop} {Ts : List Cond} {own C : String} {b : Addr} {As rest : List Value} {g : JFrame}
theorem vx_runI (S : CallFix p m c cc nL s args Ts own) (hM : vx_Met l y ws rm Pc Qc XC mc ms free) (cw : CallB R s args own index y bytes maxL none ws rm mc ms n ∧ y.name = "<init>" ∧ (Cond.instanceMethod y).before args s = true) (hp : PreS s H Pc (.ref b :: As))
    (hg : g.method = m) (hn : As.length = n) (hsize : g.locals.size = nL) (hstack : g.stack = As.reverse ++ .ref b :: rest) (hW : 2 * g.monitorRoom + (rest.map fun v => v.category).sum ≤ 8) (hdg : decode cc g.pc = .ok (.invokespecial index, 3)) (hf : cells + mc ≤ R.cells ∧ slots + ms ≤ R.slots) :
    vx_Run p l e R s m args below meth c H locs cells slots mc ms g rest (Qc (Value.ref b :: As).toArray) XC free := by
  have hK : vx_Back l R p e below s args y 3 8 (PreOf R mc ms Pc) (PostOf Qc mc ms free) (vx_Post XC mc ms free) := vx_callBack cw.1 hM hp.1
  obtain ⟨⟨-, -, -, -, -, -, hcode, -, hy, hlen, hl⟩, hy1, hin⟩ := cw
  obtain ⟨hx, hb, hml, ho, -⟩ := S
  have hPc := hp.2
  intro T hT X
  rcases vx_callI X hx (bytes := bytes) (maxL := maxL) ho hy1 hl hin hcode hy hK hg (hsize.trans hml.symm) (a := b) (argsL := As) (rest := rest) (fun sig h => hn.trans (hlen sig h)) hstack hW (by rw [hb]; exact hdg)
    (fun vm₁ hW₁ => ⟨hf.1, hf.2, hPc (T.setVm vm₁) hT hW₁⟩) with ⟨v, vm₁, ⟨U', l2, c2, s2⟩, hW₁, X', ⟨g', mk, t, L, e1, e2, hq, h1, hL, h2, h3⟩, st⟩ | ⟨q, vm₁, ⟨U', l2, c2, s2⟩, hW₁, X', ⟨g', mk, t, L, E, ce, e1, e2, hq, hce, hcv, hcl, h1, hL, h2, h3⟩, st⟩
  · dsimp only [Pt.U, Pt.locs, Pt.cells, Pt.slots] at X' e1 e2 h1 h2 h3 st
    subst h1; subst h2; subst h3
    exact Or.inl ⟨v, (T.setVm vm₁).calling g' mk (Value.ref b :: As).toArray, t, U', L, hT, X', hL, e1, e2, hq, st⟩
  · dsimp only [Pt.U, Pt.locs, Pt.cells, Pt.slots] at X' e1 e2 h1 h2 h3 st hcl
    subst h1; subst h2; subst h3
    exact Or.inr ⟨q, (T.setVm vm₁).calling g' mk (Value.ref b :: As).toArray, t, U', L, E, ce, hT, X', hL, e1, e2, hq, hce, hcv, vx_cls hW₁ hcl, st⟩
end VXIB
/-! ===== END ===== -/
/-! ===== BEGIN a private constructor of a nest mate that throws ===== -/
section VXIC
variable {p : Program} {l : Launch} {e : Env} {R : Room} {s : State} {m : MethodId} {args : Array Value} {below : List Frame} {meth : Method} {c : Code} {T : State} {locs : List Loc} {cells slots : Nat}
theorem vx_callIN (X : Stand p l e R s m args below meth c T locs cells slots) (hexec : p.tables.exec = Jvm.exec) {own : String} {index : Nat} {host : String} {y : MethodName} {bytes : ByteArray} {maxL : Nat}
    (hown : s.vm.findClass own = some m.cls) (hy1 : y.name = "<init>") (hlink : (Cond.methodLinkNest own index y host).before args s = true) (hinst : (Cond.instanceMethod y).before args s = true)
    (hcode : (Cond.code y bytes maxL none).before args s = true) (hy : y.cls ≠ "java/lang/invoke/MethodHandle" ∧ y.cls ≠ "java/lang/invoke/VarHandle")
    {W9 : Nat} {Pre : Pt → Array Value → Prop} {Post : Pt → Array Value → Option Value → Pt → Prop} {PostX : Pt → Array Value → Addr → Pt → Prop} (hK : vx_Back l R p e below s args y 3 W9 Pre Post PostX)
    {g : JFrame} (hg : g.method = m) (hsize : g.locals.size = c.maxLocals) {a : Addr} {argsL rest : List Value} (hlen : ∀ sig, parseMethodDescriptor y.desc = some sig → argsL.length = sig.parameters.length)
    (hstack : g.stack = argsL.reverse ++ .ref a :: rest) (hW : 2 * g.monitorRoom + (rest.map fun v => v.category).sum ≤ W9) (hdg : decode c.code g.pc = .ok (.invokespecial index, 3))
    (hpre : ∀ vm₁, s.WarmedH vm₁ → Pre ⟨T.setVm vm₁, locs, cells, slots⟩ (Value.ref a :: argsL).toArray) :
    (∃ (v : Option Value) (vm₁ : Vm) (B : Pt), s.WarmedH vm₁ ∧ Stand p l e R s m args below meth c B.U B.locs B.cells B.slots ∧ Post ⟨T.setVm vm₁, locs, cells, slots⟩ (Value.ref a :: argsL).toArray v B ∧
      ∀ target, Steps p.tables e below (B.U.setTop { g with pc := g.pc + 3, stack := v.toList ++ rest }) target → Steps p.tables e below (T.setTop g) target) ∨
    (∃ (q : Addr) (vm₁ : Vm) (B : Pt), s.WarmedH vm₁ ∧ Stand p l e R s m args below meth c B.U B.locs B.cells B.slots ∧ PostX ⟨T.setVm vm₁, locs, cells, slots⟩ (Value.ref a :: argsL).toArray q B ∧
      Steps p.tables e below (T.setTop g) ((B.U.setTop { g with stack := rest }).pushFrame (.throwing q))) := by
  subst hg
  have hpl : e.platform.magicAccessors = ({} : Platform).magicAccessors := by rw [X.admits.platform]
  obtain ⟨mk, methM, cM, kP, vm₁, hnamed, hmethM, hcodeM, -, hlocalsM, -, hkP, -, hW₁, hstep₁⟩ := Steps.initColdArgsNest (e := e) X.here hexec X.warmed hpl hown hy1 hy hlink hinst hcode (f := g) rfl hlen hstack hdg
  have X₁ := X.noted hW₁
  rcases hK g.method meth c ⟨T.setVm vm₁, locs, cells, slots⟩ { g with stack := rest } (.invokespecial index) mk (Value.ref a :: argsL).toArray X₁ rfl hsize hdg hW (X₁.named hnamed) (hpre vm₁ X₁.warmed) with ⟨v, B, X', hpost, hsteps⟩ | ⟨q, B, X', hpost, hsteps⟩
  · exact Or.inl ⟨v, vm₁, B, X₁.warmed, X', hpost, fun target h => hstep₁ _ fun acts => by rw [doInvoke_state]; exact hsteps.trans h⟩
  · exact Or.inr ⟨q, vm₁, B, X₁.warmed, X', hpost, hstep₁ _ fun acts => by rw [doInvoke_state]; exact hsteps⟩
end VXIC
section VXID
variable {p : Program} {l : Launch} {e : Env} {R : Room} {s : State} {m : MethodId} {args : Array Value} {below : List Frame} {meth : Method} {c : Code} {H : Heap} {locs : List Loc} {cells slots : Nat}
theorem vx_runIN {y : MethodName} {bytes cc : ByteArray} {maxL nL mc ms n index : Nat} {ws : List Cond} {rm : Room} {Pc : Array Value → State → Prop} {Qc : Array Value → State → Outcome → State → Prop} {XC : String → State → State → Prop} {free : Addr → Prop} {Ts : List Cond} {own host : String} {b : Addr} {As rest : List Value} {g : JFrame}
    (S : CallFix p m c cc nL s args Ts own) (hM : vx_Met l y ws rm Pc Qc XC mc ms free) (cw : va_CN R s args own index y host bytes maxL none ws rm mc ms n ∧ y.name = "<init>" ∧ (Cond.instanceMethod y).before args s = true) (hp : PreS s H Pc (.ref b :: As))
    (hg : g.method = m) (hn : As.length = n) (hsize : g.locals.size = nL) (hstack : g.stack = As.reverse ++ .ref b :: rest) (hW : 2 * g.monitorRoom + (rest.map fun v => v.category).sum ≤ 8) (hdg : decode cc g.pc = .ok (.invokespecial index, 3)) (hf : cells + mc ≤ R.cells ∧ slots + ms ≤ R.slots) :
    vx_Run p l e R s m args below meth c H locs cells slots mc ms g rest (Qc (Value.ref b :: As).toArray) XC free := by
  obtain ⟨⟨⟨hrc, hrs, hfr, hlo, hws, hcw⟩, hcode, hini, hy, hlen, hl⟩, hx1, hx2⟩ := cw
  have hK : vx_Back l R p e below s args y 3 8 (PreOf R mc ms Pc) (PostOf Qc mc ms free) (vx_Post XC mc ms free) := vx_back (bytes := bytes) (maxL := maxL) (ret := none) hM hp.1 hrc hrs hfr hlo hws hcw (fun a' U hW => word_at hW (Or.inl (by first | rfl | simp [Cond.onTables, Cond.keeps, Cond.steady])) hini)
  obtain ⟨hx, hb, hml, ho, -⟩ := S
  have hPc := hp.2
  intro T hT X
  rcases vx_callIN X hx (bytes := bytes) (maxL := maxL) ho hx1 hl hx2 hcode hy hK hg (hsize.trans hml.symm) (a := b) (argsL := As) (rest := rest) (fun sig h => hn.trans (hlen sig h)) hstack hW (by rw [hb]; exact hdg)
    (fun vm₁ hW₁ => ⟨hf.1, hf.2, hPc (T.setVm vm₁) hT hW₁⟩) with ⟨v, vm₁, ⟨U', l2, c2, s2⟩, hW₁, X', ⟨g', mk, t, L, e1, e2, hq, h1, hL, h2, h3⟩, st⟩ | ⟨q, vm₁, ⟨U', l2, c2, s2⟩, hW₁, X', ⟨g', mk, t, L, E, ce, e1, e2, hq, hce, hcv, hcl, h1, hL, h2, h3⟩, st⟩
  · dsimp only [Pt.U, Pt.locs, Pt.cells, Pt.slots] at X' e1 e2 h1 h2 h3 st
    subst h1; subst h2; subst h3
    exact Or.inl ⟨v, (T.setVm vm₁).calling g' mk (Value.ref b :: As).toArray, t, U', L, hT, X', hL, e1, e2, hq, st⟩
  · dsimp only [Pt.U, Pt.locs, Pt.cells, Pt.slots] at X' e1 e2 h1 h2 h3 st hcl
    subst h1; subst h2; subst h3
    exact Or.inr ⟨q, (T.setVm vm₁).calling g' mk (Value.ref b :: As).toArray, t, U', L, E, ce, hT, X', hL, e1, e2, hq, hce, hcv, vx_cls hW₁ hcl, st⟩
end VXID
/-! ===== END ===== -/
/-! ===== BEGIN a method of a class above, found by the receiver, that may throw (follows va_callVU, va_runU of this kit) ===== -/
section
variable {p : Program} {l : Launch} {e : Env} {R : Room} {s : State} {m : MethodId} {args : Array Value} {below : List Frame} {meth : Method} {c : Code} {H : Heap} {locs : List Loc} {cells slots : Nat}
theorem vx_callVU {T : State} {locs : List Loc} {cells slots : Nat} (X : Stand p l e R s m args below meth c T locs cells slots) (hexec : p.tables.exec = Jvm.exec) {own C owner : String} {index : Nat} {x y : MethodName} {bytes : ByteArray} {maxL : Nat} {ret : Option FieldType}
    (hown : s.vm.findClass own = some m.cls) (hlink : (Cond.methodLink own index x).before args s = true) (hsame : (Cond.sameMethod x.cls owner x.name x.desc).before args s = true)
    (hd0 : va_Decl s ⟨owner, x.name, x.desc⟩) (howner : owner ≠ "java/lang/invoke/MethodHandle" ∧ owner ≠ "java/lang/invoke/VarHandle")
    (hsel : (Cond.selects C x y).before args s = true) (hinst : (Cond.instanceMethod y).before args s = true) (hcode : (Cond.code y bytes maxL ret).before args s = true)
    {W : Nat} {Pre : Pt → Array Value → Prop} {Post : Pt → Array Value → Option Value → Pt → Prop} {PostX : Pt → Array Value → Addr → Pt → Prop} (hK : vx_Back l R p e below s args y 3 W Pre Post PostX)
    {b : Addr} {cellB : Cell} (hcell : T.heap[b]? = some cellB) (hobj : cellB.vm.isStatics = false) (hcls : s.vm.findClass C = some cellB.cls)
    {g : JFrame} (hg : g.method = m) (hsize : g.locals.size = c.maxLocals) {argsL rest : List Value} (hlen : ∀ sig, parseMethodDescriptor x.desc = some sig → argsL.length = sig.parameters.length)
    (hstack : g.stack = argsL.reverse ++ .ref b :: rest) (hW : 2 * g.monitorRoom + (rest.map fun v => v.category).sum ≤ W) (hdg : decode c.code g.pc = .ok (.invokevirtual index, 3))
    (hpre : ∀ vm₁, s.WarmedH vm₁ → Pre ⟨T.setVm vm₁, locs, cells, slots⟩ (Value.ref b :: argsL).toArray) :
    (∃ (v : Option Value) (vm₁ : Vm) (B : Pt), s.WarmedH vm₁ ∧ Stand p l e R s m args below meth c B.U B.locs B.cells B.slots ∧ Post ⟨T.setVm vm₁, locs, cells, slots⟩ (Value.ref b :: argsL).toArray v B ∧
      ∀ target, Steps p.tables e below (B.U.setTop { g with pc := g.pc + 3, stack := v.toList ++ rest }) target → Steps p.tables e below (T.setTop g) target) ∨
    (∃ (q : Addr) (vm₁ : Vm) (B : Pt), s.WarmedH vm₁ ∧ Stand p l e R s m args below meth c B.U B.locs B.cells B.slots ∧ PostX ⟨T.setVm vm₁, locs, cells, slots⟩ (Value.ref b :: argsL).toArray q B ∧
      Steps p.tables e below (T.setTop g) ((B.U.setTop { g with stack := rest }).pushFrame (.throwing q))) := by
  obtain ⟨r0, r, hn, hrm, hstR, hsigR⟩ := hd0
  obtain ⟨cn, ck, r1, hcn, hck, hni, hf, hn1⟩ := Cond.sameMethod_found hsame
  cases hn.symm.trans hn1
  obtain ⟨mk, methM, hnamed, hmethM, -, habM⟩ := Cond.instanceMethod_spec hinst
  obtain ⟨c2, r2, m2, q1, q2, q3, q4, kP, hkP, hkPi⟩ := Cond.selects_spec hsel
  cases hcls.symm.trans q1
  cases hf.symm.trans q2
  cases hnamed.symm.trans q3
  have hselP : selectMethod e.platform s.vm cellB.cls r0 = .method mk := by rw [Launch.admits_selectMethod X.admits]; exact q4
  obtain ⟨vm₁, X₁, hstep₁⟩ := X.invokevirtualUp hexec hown hlink hsame howner hn hrm hstR (a := b) (cell := cellB) hcell
    (fun z h => by rw [h] at hobj; cases hobj) hselP hmethM habM hkP hkPi (g := g) hg (argsL := argsL) (rest := rest) (hlen _ hsigR) hstack hdg
  rcases hK m meth c ⟨T.setVm vm₁, locs, cells, slots⟩ { g with stack := rest } (.invokevirtual index) mk (Value.ref b :: argsL).toArray X₁ hg hsize hdg hW (X₁.named hnamed) (hpre vm₁ X₁.warmed) with ⟨v, B, X', hpost, hsteps⟩ | ⟨q, B, X', hpost, hsteps⟩
  · exact Or.inl ⟨v, vm₁, B, X₁.warmed, X', hpost, fun target h => hstep₁ _ fun acts => by rw [doInvoke_state]; exact hsteps.trans h⟩
  · exact Or.inr ⟨q, vm₁, B, X₁.warmed, X', hpost, hstep₁ _ fun acts => by rw [doInvoke_state]; exact hsteps⟩
theorem vx_runU {x y : MethodName} {bytes cc : ByteArray} {maxL nL mc ms n index : Nat} {ret : Option FieldType} {ws : List Cond} {rm : Room} {Pc : Array Value → State → Prop} {Qc : Array Value → State → Outcome → State → Prop} {XC : String → State → State → Prop} {free : Addr → Prop} {Ts : List Cond} {own C owner : String} {b : Addr} {As rest : List Value} {g : JFrame}
    (S : CallFix p m c cc nL s args Ts own) (hM : vx_Met l y ws rm Pc Qc XC mc ms free) (cw : va_CU R s args own C owner index x y bytes maxL ret ws rm mc ms n) (hp : PreV s H C b Pc As)
    (hg : g.method = m) (hn : As.length = n) (hsize : g.locals.size = nL) (hstack : g.stack = As.reverse ++ .ref b :: rest) (hW : 2 * g.monitorRoom + (rest.map fun v => v.category).sum ≤ 8) (hdg : decode cc g.pc = .ok (.invokevirtual index, 3)) (hf : cells + mc ≤ R.cells ∧ slots + ms ≤ R.slots) :
    vx_Run p l e R s m args below meth c H locs cells slots mc ms g rest (Qc (Value.ref b :: As).toArray) XC free := by
  obtain ⟨hrc, hrs, hfr, hlo, hws, hcw⟩ := cw.back
  have hini := cw.init
  have hK : vx_Back l R p e below s args y 3 8 (PreOf R mc ms Pc) (PostOf Qc mc ms free) (vx_Post XC mc ms free) := vx_back (bytes := bytes) (maxL := maxL) (ret := ret) hM hp.1 hrc hrs hfr hlo hws hcw (fun a' U hW => word_at hW (Or.inl (by first | rfl | simp [Cond.onTables, Cond.keeps, Cond.steady])) hini)
  obtain ⟨hx, hb, hml, ho, -⟩ := S
  obtain ⟨-, ⟨cellB, hcB, hoB, hclB⟩, hPc⟩ := hp
  intro T hT X
  rcases vx_callVU X hx (C := C) (owner := owner) (bytes := bytes) (maxL := maxL) (ret := ret) ho cw.link cw.same cw.decl cw.notMH cw.sel cw.inst cw.code hK (by rw [hT]; exact hcB) hoB hclB hg (hsize.trans hml.symm) (argsL := As) (rest := rest) (fun sig h => hn.trans (cw.len sig h)) hstack hW (by rw [hb]; exact hdg)
    (fun vm₁ hW₁ => ⟨hf.1, hf.2, hPc (T.setVm vm₁) hT hW₁⟩) with ⟨v, vm₁, ⟨U', l2, c2, s2⟩, hW₁, X', ⟨g', mk, t, L, e1, e2, hq, h1, hL, h2, h3⟩, st⟩ | ⟨q, vm₁, ⟨U', l2, c2, s2⟩, hW₁, X', ⟨g', mk, t, L, E, ce, e1, e2, hq, hce, hcv, hcl, h1, hL, h2, h3⟩, st⟩
  · dsimp only [Pt.U, Pt.locs, Pt.cells, Pt.slots] at X' e1 e2 h1 h2 h3 st
    subst h1; subst h2; subst h3
    exact Or.inl ⟨v, (T.setVm vm₁).calling g' mk (Value.ref b :: As).toArray, t, U', L, hT, X', hL, e1, e2, hq, st⟩
  · dsimp only [Pt.U, Pt.locs, Pt.cells, Pt.slots] at X' e1 e2 h1 h2 h3 st hcl
    subst h1; subst h2; subst h3
    exact Or.inr ⟨q, (T.setVm vm₁).calling g' mk (Value.ref b :: As).toArray, t, U', L, E, ce, hT, X', hL, e1, e2, hq, hce, hcv, vx_cls hW₁ hcl, st⟩
end
/-! ===== END ===== -/
/-! ===== BEGIN super.m(..) that may throw (follows va_callSU, va_runSU) ===== -/
section
variable {p : Program} {l : Launch} {e : Env} {R : Room} {s : State} {m : MethodId} {args : Array Value} {below : List Frame} {meth : Method} {c : Code} {H : Heap} {locs : List Loc} {cells slots : Nat}
theorem vx_callSU {T : State} {locs : List Loc} {cells slots : Nat} (X : Stand p l e R s m args below meth c T locs cells slots) (hexec : p.tables.exec = Jvm.exec) {own : String} {index : Nat} {y : MethodName} {bytes : ByteArray} {maxL : Nat} {ret : Option FieldType}
    (hown : s.vm.findClass own = some m.cls) (hlink : (Cond.methodLink own index y).before args s = true) (hsame : (Cond.sameMethod y.cls y.cls y.name y.desc).before args s = true) (hsup : (Cond.superclass own y.cls).before args s = true)
    (hinst : (Cond.instanceMethod y).before args s = true) (hcode : (Cond.code y bytes maxL ret).before args s = true) (hno : y.name ≠ "<init>")
    {W : Nat} {Pre : Pt → Array Value → Prop} {Post : Pt → Array Value → Option Value → Pt → Prop} {PostX : Pt → Array Value → Addr → Pt → Prop} (hK : vx_Back l R p e below s args y 3 W Pre Post PostX)
    {b : Addr} {cellB : Cell} {kB : Class} (hcell : T.heap[b]? = some cellB) (hobj : cellB.vm.isStatics = false) (hkB : s.vm.classes[cellB.cls]? = some kB)
    {g : JFrame} (hg : g.method = m) (hsize : g.locals.size = c.maxLocals) {argsL rest : List Value} (hlen : ∀ sig, parseMethodDescriptor y.desc = some sig → argsL.length = sig.parameters.length)
    (hstack : g.stack = argsL.reverse ++ .ref b :: rest) (hW : 2 * g.monitorRoom + (rest.map fun v => v.category).sum ≤ W) (hdg : decode c.code g.pc = .ok (.invokespecial index, 3))
    (hpre : ∀ vm₁, s.WarmedH vm₁ → Pre ⟨T.setVm vm₁, locs, cells, slots⟩ (Value.ref b :: argsL).toArray) :
    (∃ (v : Option Value) (vm₁ : Vm) (B : Pt), s.WarmedH vm₁ ∧ Stand p l e R s m args below meth c B.U B.locs B.cells B.slots ∧ Post ⟨T.setVm vm₁, locs, cells, slots⟩ (Value.ref b :: argsL).toArray v B ∧
      ∀ target, Steps p.tables e below (B.U.setTop { g with pc := g.pc + 3, stack := v.toList ++ rest }) target → Steps p.tables e below (T.setTop g) target) ∨
    (∃ (q : Addr) (vm₁ : Vm) (B : Pt), s.WarmedH vm₁ ∧ Stand p l e R s m args below meth c B.U B.locs B.cells B.slots ∧ PostX ⟨T.setVm vm₁, locs, cells, slots⟩ (Value.ref b :: argsL).toArray q B ∧
      Steps p.tables e below (T.setTop g) ((B.U.setTop { g with stack := rest }).pushFrame (.throwing q))) := by
  obtain ⟨mk, methM, hnamed, hmethM, hstM, habM⟩ := Cond.instanceMethod_spec hinst
  obtain ⟨methM', cM, hmethM', -, -, -, -, -, -, hsigM⟩ := Cond.code_spec hnamed hcode
  cases hmethM.symm.trans hmethM'
  obtain ⟨ps, dk, kp, hps, hdk, hkp, hsuper, -, -, hnid⟩ := Cond.superclass_spec hown hsup
  have hn : s.methodNamed? ⟨y.cls, y.name, y.desc⟩ = some mk := hnamed
  have hpm : ps = mk.cls := Option.some.inj (hps.symm.trans (findClass_of_methodNamed hnamed))
  have hsub : s.vm.isSubclass ps mk.cls = true := by rw [hpm]; simp [Vm.isSubclass, Vm.isSubclassAux]
  obtain ⟨vm₁, X₁, hstep₁⟩ := X.invokespecialUp hexec hown hlink hsame hn hmethM hstM habM hno hdk hnid hps hsuper hsub (a := b) (cell := cellB) hcell
    (fun z h => by rw [h] at hobj; cases hobj) hkB (g := g) hg (argsL := argsL) (rest := rest) (hlen _ hsigM) hstack hdg
  rcases hK m meth c ⟨T.setVm vm₁, locs, cells, slots⟩ { g with stack := rest } (.invokespecial index) mk (Value.ref b :: argsL).toArray X₁ hg hsize hdg hW (X₁.named hnamed) (hpre vm₁ X₁.warmed) with ⟨v, B, X', hpost, hsteps⟩ | ⟨q, B, X', hpost, hsteps⟩
  · exact Or.inl ⟨v, vm₁, B, X₁.warmed, X', hpost, fun target h => hstep₁ _ (by rw [doInvoke_state]; exact hsteps.trans h)⟩
  · exact Or.inr ⟨q, vm₁, B, X₁.warmed, X', hpost, hstep₁ _ (by rw [doInvoke_state]; exact hsteps)⟩
theorem vx_runSU {y : MethodName} {bytes cc : ByteArray} {maxL nL mc ms n index : Nat} {ret : Option FieldType} {ws : List Cond} {rm : Room} {Pc : Array Value → State → Prop} {Qc : Array Value → State → Outcome → State → Prop} {XC : String → State → State → Prop} {free : Addr → Prop} {Ts : List Cond} {own C : String} {cC : ClassId} {b : Addr} {As rest : List Value} {g : JFrame}
    (hat : ClassAt s C cC) (S : CallFix p m c cc nL s args Ts own) (hM : vx_Met l y ws rm Pc Qc XC mc ms free) (cw : va_CS R s args own index y bytes maxL ret ws rm mc ms n) (hp : PreV s H C b Pc As)
    (hg : g.method = m) (hn : As.length = n) (hsize : g.locals.size = nL) (hstack : g.stack = As.reverse ++ .ref b :: rest) (hW : 2 * g.monitorRoom + (rest.map fun v => v.category).sum ≤ 8) (hdg : decode cc g.pc = .ok (.invokespecial index, 3)) (hf : cells + mc ≤ R.cells ∧ slots + ms ≤ R.slots) :
    vx_Run p l e R s m args below meth c H locs cells slots mc ms g rest (Qc (Value.ref b :: As).toArray) XC free := by
  obtain ⟨⟨hrc, hrs, hfr, hlo, hws, hcw⟩, hl1, hl2, hl3, hl4, hini, hcode, hno, hlen⟩ := cw
  have hK : vx_Back l R p e below s args y 3 8 (PreOf R mc ms Pc) (PostOf Qc mc ms free) (vx_Post XC mc ms free) := vx_back (bytes := bytes) (maxL := maxL) (ret := ret) hM hp.1 hrc hrs hfr hlo hws hcw (fun a' U hW => word_at hW (Or.inl (by first | rfl | simp [Cond.onTables, Cond.keeps, Cond.steady])) hini)
  obtain ⟨hx, hb, hml, ho, -⟩ := S
  obtain ⟨-, ⟨cellB, hcB, hoB, hclB⟩, hPc⟩ := hp
  obtain ⟨hfc, kB, hkB, -⟩ := hat
  cases hfc.symm.trans hclB
  intro T hT X
  rcases vx_callSU X hx (bytes := bytes) (maxL := maxL) (ret := ret) ho hl1 hl2 hl3 hl4 hcode hno hK (by rw [hT]; exact hcB) hoB hkB hg (hsize.trans hml.symm) (argsL := As) (rest := rest) (fun sig h => hn.trans (hlen sig h)) hstack hW (by rw [hb]; exact hdg)
    (fun vm₁ hW₁ => ⟨hf.1, hf.2, hPc (T.setVm vm₁) hT hW₁⟩) with ⟨v, vm₁, ⟨U', l2, c2, s2⟩, hW₁, X', ⟨g', mk, t, L, e1, e2, hq, h1, hL, h2, h3⟩, st⟩ | ⟨q, vm₁, ⟨U', l2, c2, s2⟩, hW₁, X', ⟨g', mk, t, L, E, ce, e1, e2, hq, hce, hcv, hcl, h1, hL, h2, h3⟩, st⟩
  · dsimp only [Pt.U, Pt.locs, Pt.cells, Pt.slots] at X' e1 e2 h1 h2 h3 st
    subst h1; subst h2; subst h3
    exact Or.inl ⟨v, (T.setVm vm₁).calling g' mk (Value.ref b :: As).toArray, t, U', L, hT, X', hL, e1, e2, hq, st⟩
  · dsimp only [Pt.U, Pt.locs, Pt.cells, Pt.slots] at X' e1 e2 h1 h2 h3 st hcl
    subst h1; subst h2; subst h3
    exact Or.inr ⟨q, (T.setVm vm₁).calling g' mk (Value.ref b :: As).toArray, t, U', L, E, ce, hT, X', hL, e1, e2, hq, hce, hcv, vx_cls hW₁ hcl, st⟩
end
/-! ===== END ===== -/
/-! ===== BEGIN a private method of a nest mate that may throw (follows va_callVN, va_callSN, va_runVN, va_runSN) ===== -/
section
variable {p : Program} {l : Launch} {e : Env} {R : Room} {s : State} {m : MethodId} {args : Array Value} {below : List Frame} {meth : Method} {c : Code} {H : Heap} {locs : List Loc} {cells slots : Nat}
variable {T : State}
theorem vx_callVN (X : Stand p l e R s m args below meth c T locs cells slots) (hexec : p.tables.exec = Jvm.exec) {own C : String} {index : Nat} {host : String} {y : MethodName} {bytes : ByteArray} {maxL : Nat} {ret : Option FieldType}
    (hown : s.vm.findClass own = some m.cls) (hlink : (Cond.methodLinkNest own index y host).before args s = true) (hinst : (Cond.instanceMethod y).before args s = true) (hsel : (Cond.selects C y y).before args s = true)
    (hcode : (Cond.code y bytes maxL ret).before args s = true) (hy : y.cls ≠ "java/lang/invoke/MethodHandle" ∧ y.cls ≠ "java/lang/invoke/VarHandle")
    {W : Nat} {Pre : Pt → Array Value → Prop} {Post : Pt → Array Value → Option Value → Pt → Prop} {PostX : Pt → Array Value → Addr → Pt → Prop} (hK : vx_Back l R p e below s args y 3 W Pre Post PostX)
    {b : Addr} {cellB : Cell} (hcell : T.heap[b]? = some cellB) (hobj : cellB.vm.isStatics = false) (hcls : s.vm.findClass C = some cellB.cls)
    {g : JFrame} (hg : g.method = m) (hsize : g.locals.size = c.maxLocals) {argsL rest : List Value} (hlen : ∀ sig, parseMethodDescriptor y.desc = some sig → argsL.length = sig.parameters.length)
    (hstack : g.stack = argsL.reverse ++ .ref b :: rest) (hW : 2 * g.monitorRoom + (rest.map fun v => v.category).sum ≤ W) (hdg : decode c.code g.pc = .ok (.invokevirtual index, 3))
    (hpre : ∀ vm₁, s.WarmedH vm₁ → Pre ⟨T.setVm vm₁, locs, cells, slots⟩ (Value.ref b :: argsL).toArray) :
    (∃ (v : Option Value) (vm₁ : Vm) (B : Pt), s.WarmedH vm₁ ∧ Stand p l e R s m args below meth c B.U B.locs B.cells B.slots ∧ Post ⟨T.setVm vm₁, locs, cells, slots⟩ (Value.ref b :: argsL).toArray v B ∧
      ∀ target, Steps p.tables e below (B.U.setTop { g with pc := g.pc + 3, stack := v.toList ++ rest }) target → Steps p.tables e below (T.setTop g) target) ∨
    (∃ (q : Addr) (vm₁ : Vm) (B : Pt), s.WarmedH vm₁ ∧ Stand p l e R s m args below meth c B.U B.locs B.cells B.slots ∧ PostX ⟨T.setVm vm₁, locs, cells, slots⟩ (Value.ref b :: argsL).toArray q B ∧
      Steps p.tables e below (T.setTop g) ((B.U.setTop { g with stack := rest }).pushFrame (.throwing q))) := by
  obtain ⟨mk, methM, hnamed, hmethM, hstM, habM⟩ := Cond.instanceMethod_spec hinst
  obtain ⟨methM', cM, hmethM', -, -, -, -, -, -, hsigM⟩ := Cond.code_spec hnamed hcode
  cases hmethM.symm.trans hmethM'
  obtain ⟨c2, r2, m2, q1, q2, q3, q4, kP, hkP, hkPi⟩ := Cond.selects_spec hsel
  cases hcls.symm.trans q1
  cases (State.methodFound?_of_named hnamed hy).symm.trans q2
  cases hnamed.symm.trans q3
  have hselP : selectMethod e.platform s.vm cellB.cls mk = .method mk := by rw [Launch.admits_selectMethod X.admits]; exact q4
  obtain ⟨vm₁, X₁, hstep₁⟩ := X.invokevirtualNest hexec hown hlink hnamed hmethM hstM hkP hkPi hy (a := b) (cell := cellB) hcell
    (fun z h => by rw [h] at hobj; cases hobj) hselP hmethM habM hkP hkPi (g := g) hg (argsL := argsL) (rest := rest) (hlen _ hsigM) hstack hdg
  rcases hK m meth c ⟨T.setVm vm₁, locs, cells, slots⟩ { g with stack := rest } (.invokevirtual index) mk (Value.ref b :: argsL).toArray X₁ hg hsize hdg hW (X₁.named hnamed) (hpre vm₁ X₁.warmed) with ⟨v, B, X', hpost, hsteps⟩ | ⟨q, B, X', hpost, hsteps⟩
  · exact Or.inl ⟨v, vm₁, B, X₁.warmed, X', hpost, fun target h => hstep₁ _ fun acts => by rw [doInvoke_state]; exact hsteps.trans h⟩
  · exact Or.inr ⟨q, vm₁, B, X₁.warmed, X', hpost, hstep₁ _ fun acts => by rw [doInvoke_state]; exact hsteps⟩
theorem vx_callSN (X : Stand p l e R s m args below meth c T locs cells slots) (hexec : p.tables.exec = Jvm.exec) {own : String} {index : Nat} {host : String} {y : MethodName} {bytes : ByteArray} {maxL : Nat} {ret : Option FieldType}
    (hown : s.vm.findClass own = some m.cls) (hlink : (Cond.methodLinkNest own index y host).before args s = true) (hstat : (Cond.static y).before args s = true) (hinit : (Cond.initialized y.cls).before args s = true)
    (hcode : (Cond.code y bytes maxL ret).before args s = true) (hy : y.cls ≠ "java/lang/invoke/MethodHandle" ∧ y.cls ≠ "java/lang/invoke/VarHandle")
    {W : Nat} {Pre : Pt → Array Value → Prop} {Post : Pt → Array Value → Option Value → Pt → Prop} {PostX : Pt → Array Value → Addr → Pt → Prop} (hK : vx_Back l R p e below s args y 3 W Pre Post PostX)
    {g : JFrame} (hg : g.method = m) (hsize : g.locals.size = c.maxLocals) {argsL rest : List Value} (hlen : ∀ sig, parseMethodDescriptor y.desc = some sig → argsL.length = sig.parameters.length)
    (hstack : g.stack = argsL.reverse ++ rest) (hW : 2 * g.monitorRoom + (rest.map fun v => v.category).sum ≤ W) (hdg : decode c.code g.pc = .ok (.invokestatic index, 3))
    (hpre : ∀ vm₁, s.WarmedH vm₁ → Pre ⟨T.setVm vm₁, locs, cells, slots⟩ argsL.toArray) :
    (∃ (v : Option Value) (vm₁ : Vm) (B : Pt), s.WarmedH vm₁ ∧ Stand p l e R s m args below meth c B.U B.locs B.cells B.slots ∧ Post ⟨T.setVm vm₁, locs, cells, slots⟩ argsL.toArray v B ∧
      ∀ target, Steps p.tables e below (B.U.setTop { g with pc := g.pc + 3, stack := v.toList ++ rest }) target → Steps p.tables e below (T.setTop g) target) ∨
    (∃ (q : Addr) (vm₁ : Vm) (B : Pt), s.WarmedH vm₁ ∧ Stand p l e R s m args below meth c B.U B.locs B.cells B.slots ∧ PostX ⟨T.setVm vm₁, locs, cells, slots⟩ argsL.toArray q B ∧
      Steps p.tables e below (T.setTop g) ((B.U.setTop { g with stack := rest }).pushFrame (.throwing q))) := by
  obtain ⟨mk, hnamed⟩ := Cond.code_named hcode
  obtain ⟨methM, cM, hmethM, -, -, -, -, -, -, hsigM⟩ := Cond.code_spec hnamed hcode
  have hstatic : methM.isStatic = true := Cond.static_spec hnamed hmethM hstat
  obtain ⟨kP, hkP, -⟩ := className_of_methodNamed hnamed
  have hinitP : kP.init = .initialized := Cond.initialized_spec (findClass_of_methodNamed hnamed) hkP hinit
  obtain ⟨vm₁, X₁, hstep₁⟩ := X.invokestaticNest hexec hown hlink hnamed hmethM hstatic hkP hinitP hy (g := g) hg (argsL := argsL) (rest := rest) (hlen _ hsigM) hstack hdg
  rcases hK m meth c ⟨T.setVm vm₁, locs, cells, slots⟩ { g with stack := rest } (.invokestatic index) mk argsL.toArray X₁ hg hsize hdg hW (X₁.named hnamed) (hpre vm₁ X₁.warmed) with ⟨v, B, X', hpost, hsteps⟩ | ⟨q, B, X', hpost, hsteps⟩
  · exact Or.inl ⟨v, vm₁, B, X₁.warmed, X', hpost, fun target h => hstep₁ _ fun acts => by rw [doInvoke_state]; exact hsteps.trans h⟩
  · exact Or.inr ⟨q, vm₁, B, X₁.warmed, X', hpost, hstep₁ _ fun acts => by rw [doInvoke_state]; exact hsteps⟩
theorem vx_runVN {y : MethodName} {bytes cc : ByteArray} {maxL nL mc ms n index : Nat} {ret : Option FieldType} {ws : List Cond} {rm : Room} {Pc : Array Value → State → Prop} {Qc : Array Value → State → Outcome → State → Prop} {XC : String → State → State → Prop} {free : Addr → Prop} {Ts : List Cond} {own C host : String} {b : Addr} {As rest : List Value} {g : JFrame}
    (S : CallFix p m c cc nL s args Ts own) (hM : vx_Met l y ws rm Pc Qc XC mc ms free) (cw : va_CN R s args own index y host bytes maxL ret ws rm mc ms n ∧ (Cond.instanceMethod y).before args s = true ∧ (Cond.selects C y y).before args s = true) (hp : PreV s H C b Pc As)
    (hg : g.method = m) (hn : As.length = n) (hsize : g.locals.size = nL) (hstack : g.stack = As.reverse ++ .ref b :: rest) (hW : 2 * g.monitorRoom + (rest.map fun v => v.category).sum ≤ 8) (hdg : decode cc g.pc = .ok (.invokevirtual index, 3)) (hf : cells + mc ≤ R.cells ∧ slots + ms ≤ R.slots) :
    vx_Run p l e R s m args below meth c H locs cells slots mc ms g rest (Qc (Value.ref b :: As).toArray) XC free := by
  obtain ⟨⟨⟨hrc, hrs, hfr, hlo, hws, hcw⟩, hcode, hini, hy, hlen, hl⟩, hx1, hx2⟩ := cw
  have hK : vx_Back l R p e below s args y 3 8 (PreOf R mc ms Pc) (PostOf Qc mc ms free) (vx_Post XC mc ms free) := vx_back (bytes := bytes) (maxL := maxL) (ret := ret) hM hp.1 hrc hrs hfr hlo hws hcw (fun a' U hW => word_at hW (Or.inl (by first | rfl | simp [Cond.onTables, Cond.keeps, Cond.steady])) hini)
  obtain ⟨hx, hb, hml, ho, -⟩ := S
  obtain ⟨-, ⟨cellB, hcB, hoB, hclB⟩, hPc⟩ := hp
  intro T hT X
  rcases vx_callVN X hx (C := C) (bytes := bytes) (maxL := maxL) (ret := ret) ho hl hx1 hx2 hcode hy hK (by rw [hT]; exact hcB) hoB hclB hg (hsize.trans hml.symm) (argsL := As) (rest := rest) (fun sig h => hn.trans (hlen sig h)) hstack hW (by rw [hb]; exact hdg)
    (fun vm₁ hW₁ => ⟨hf.1, hf.2, hPc (T.setVm vm₁) hT hW₁⟩) with ⟨v, vm₁, ⟨U', l2, c2, s2⟩, hW₁, X', ⟨g', mk, t, L, e1, e2, hq, h1, hL, h2, h3⟩, st⟩ | ⟨q, vm₁, ⟨U', l2, c2, s2⟩, hW₁, X', ⟨g', mk, t, L, E, ce, e1, e2, hq, hce, hcv, hcl, h1, hL, h2, h3⟩, st⟩
  · dsimp only [Pt.U, Pt.locs, Pt.cells, Pt.slots] at X' e1 e2 h1 h2 h3 st
    subst h1; subst h2; subst h3
    exact Or.inl ⟨v, (T.setVm vm₁).calling g' mk (Value.ref b :: As).toArray, t, U', L, hT, X', hL, e1, e2, hq, st⟩
  · dsimp only [Pt.U, Pt.locs, Pt.cells, Pt.slots] at X' e1 e2 h1 h2 h3 st hcl
    subst h1; subst h2; subst h3
    exact Or.inr ⟨q, (T.setVm vm₁).calling g' mk (Value.ref b :: As).toArray, t, U', L, E, ce, hT, X', hL, e1, e2, hq, hce, hcv, vx_cls hW₁ hcl, st⟩
theorem vx_runSN {y : MethodName} {bytes cc : ByteArray} {maxL nL mc ms n index : Nat} {ret : Option FieldType} {ws : List Cond} {rm : Room} {Pc : Array Value → State → Prop} {Qc : Array Value → State → Outcome → State → Prop} {XC : String → State → State → Prop} {free : Addr → Prop} {Ts : List Cond} {own host : String} {As rest : List Value} {g : JFrame}
    (S : CallFix p m c cc nL s args Ts own) (hM : vx_Met l y ws rm Pc Qc XC mc ms free) (cw : va_CN R s args own index y host bytes maxL ret ws rm mc ms n ∧ (Cond.static y).before args s = true ∧ True) (hp : PreS s H Pc As)
    (hg : g.method = m) (hn : As.length = n) (hsize : g.locals.size = nL) (hstack : g.stack = As.reverse ++ rest) (hW : 2 * g.monitorRoom + (rest.map fun v => v.category).sum ≤ 8) (hdg : decode cc g.pc = .ok (.invokestatic index, 3)) (hf : cells + mc ≤ R.cells ∧ slots + ms ≤ R.slots) :
    vx_Run p l e R s m args below meth c H locs cells slots mc ms g rest (Qc As.toArray) XC free := by
  obtain ⟨⟨⟨hrc, hrs, hfr, hlo, hws, hcw⟩, hcode, hini, hy, hlen, hl⟩, hx1, hx2⟩ := cw
  have hK : vx_Back l R p e below s args y 3 8 (PreOf R mc ms Pc) (PostOf Qc mc ms free) (vx_Post XC mc ms free) := vx_back (bytes := bytes) (maxL := maxL) (ret := ret) hM hp.1 hrc hrs hfr hlo hws hcw (fun a' U hW => word_at hW (Or.inl (by first | rfl | simp [Cond.onTables, Cond.keeps, Cond.steady])) hini)
  obtain ⟨hx, hb, hml, ho, -⟩ := S
  have hPc := hp.2
  intro T hT X
  rcases vx_callSN X hx (bytes := bytes) (maxL := maxL) (ret := ret) ho hl hx1 hini hcode hy hK hg (hsize.trans hml.symm) (argsL := As) (rest := rest) (fun sig h => hn.trans (hlen sig h)) hstack hW (by rw [hb]; exact hdg)
    (fun vm₁ hW₁ => ⟨hf.1, hf.2, hPc (T.setVm vm₁) hT hW₁⟩) with ⟨v, vm₁, ⟨U', l2, c2, s2⟩, hW₁, X', ⟨g', mk, t, L, e1, e2, hq, h1, hL, h2, h3⟩, st⟩ | ⟨q, vm₁, ⟨U', l2, c2, s2⟩, hW₁, X', ⟨g', mk, t, L, E, ce, e1, e2, hq, hce, hcv, hcl, h1, hL, h2, h3⟩, st⟩
  · dsimp only [Pt.U, Pt.locs, Pt.cells, Pt.slots] at X' e1 e2 h1 h2 h3 st
    subst h1; subst h2; subst h3
    exact Or.inl ⟨v, (T.setVm vm₁).calling g' mk As.toArray, t, U', L, hT, X', hL, e1, e2, hq, st⟩
  · dsimp only [Pt.U, Pt.locs, Pt.cells, Pt.slots] at X' e1 e2 h1 h2 h3 st hcl
    subst h1; subst h2; subst h3
    exact Or.inr ⟨q, (T.setVm vm₁).calling g' mk As.toArray, t, U', L, E, ce, hT, X', hL, e1, e2, hq, hce, hcv, vx_cls hW₁ hcl, st⟩
end
/-! ===== END ===== -/
/-! ===== BEGIN calls by an interface of methods that may throw (vx_callIF, vx_runF follow va_callIF, va_runF of this kit) ===== -/
section
variable {p : Program} {l : Launch} {e : Env} {R : Room} {s : State} {m : MethodId} {args : Array Value} {below : List Frame} {meth : Method} {c : Code} {H : Heap} {locs : List Loc} {cells slots : Nat} {Q : State → Prop}
variable {mc ms : Nat} {free : Addr → Prop} {A0 A1 : Nat → Prop} {H0 : Heap} {a : Array Value} {pc : Nat} {ls : Array Slot} {st0 rest : List Value}
def vx_Run5 (p : Program) (l : Launch) (e : Env) (R : Room) (s : State) (m : MethodId) (args : Array Value) (below : List Frame) (meth : Method) (c : Code) (H : Heap) (locs : List Loc) (cells slots mc ms : Nat) (g : JFrame) (rest : List Value) (Qa : State → Outcome → State → Prop) (XC : String → State → State → Prop) (free : Addr → Prop) : Prop :=
  ∀ T : State, T.heap = H → Stand p l e R s m args below meth c T locs cells slots →
    (∃ (v : Option Value) (st₀ t T' : State) (L : List Loc), st₀.heap = H ∧ Stand p l e R s m args below meth c T' (locs ++ L) (cells + mc) (slots + ms) ∧ (∀ q ∈ L, free q.base) ∧ T'.heap = t.heap ∧ T'.vm = t.vm ∧ Qa st₀ (.returned v) t ∧
      Goes p e below T g T' { g with pc := g.pc + 5, stack := v.toList ++ rest }) ∨
    (∃ (q : Addr) (st₀ t T' : State) (L : List Loc) (E : String) (ce : Cell), st₀.heap = H ∧ Stand p l e R s m args below meth c T' (locs ++ L) (cells + mc) (slots + ms) ∧ (∀ z ∈ L, free z.base) ∧ T'.heap = t.heap ∧ T'.vm = t.vm ∧ XC E st₀ t ∧ t.heap[q]? = some ce ∧ ce.vm = .none ∧ s.vm.findClass E = some ce.cls ∧
      Steps p.tables e below (T.setTop g) ((T'.setTop { g with stack := rest }).pushFrame (.throwing q)))
theorem vx_callIF {T : State} (X : Stand p l e R s m args below meth c T locs cells slots) (hexec : p.tables.exec = Jvm.exec) {own C : String} {index count : Nat} {x y : MethodName} {bytes : ByteArray} {maxL : Nat} {ret : Option FieldType}
    (hown : s.vm.findClass own = some m.cls) (hlink : (Cond.methodLink own index x).before args s = true) (hdecl : (Cond.declares x).before args s = true) (hface : (Cond.interfaceMethod x.cls x.cls x.name x.desc).before args s = true)
    (hsel : (Cond.selects C x y).before args s = true) (hinst : (Cond.instanceMethod y).before args s = true) (hpub : (Cond.publicMethod y).before args s = true) (hunh : (Cond.unhidden C x.name x.desc).before args s = true)
    (hcast : (Cond.castable C x.cls).before args s = true) (hcode : (Cond.code y bytes maxL ret).before args s = true) (hx : x.cls ≠ "java/lang/invoke/MethodHandle" ∧ x.cls ≠ "java/lang/invoke/VarHandle")
    {W9 : Nat} {Pre : Pt → Array Value → Prop} {Post : Pt → Array Value → Option Value → Pt → Prop} {PostX : Pt → Array Value → Addr → Pt → Prop} (hK : vx_Back l R p e below s args y 5 W9 Pre Post PostX)
    {b : Addr} {cellB : Cell} {kB : Class} (hcell : T.heap[b]? = some cellB) (hobj : cellB.vm.isStatics = false) (hcls : s.vm.findClass C = some cellB.cls) (hkB : s.vm.classes[cellB.cls]? = some kB)
    {g : JFrame} (hg : g.method = m) (hsize : g.locals.size = c.maxLocals) {argsL rest : List Value} (hlen : ∀ sig, parseMethodDescriptor x.desc = some sig → argsL.length = sig.parameters.length)
    (hstack : g.stack = argsL.reverse ++ .ref b :: rest) (hW : 2 * g.monitorRoom + (rest.map fun v => v.category).sum ≤ W9) (hdg : decode c.code g.pc = .ok (.invokeinterface index count, 5))
    (hpre : ∀ vm₁, s.WarmedH vm₁ → Pre ⟨T.setVm vm₁, locs, cells, slots⟩ (Value.ref b :: argsL).toArray) :
    (∃ (v : Option Value) (vm₁ : Vm) (B : Pt), s.WarmedH vm₁ ∧ Stand p l e R s m args below meth c B.U B.locs B.cells B.slots ∧ Post ⟨T.setVm vm₁, locs, cells, slots⟩ (Value.ref b :: argsL).toArray v B ∧
      ∀ target, Steps p.tables e below (B.U.setTop { g with pc := g.pc + 5, stack := v.toList ++ rest }) target → Steps p.tables e below (T.setTop g) target) ∨
    (∃ (q : Addr) (vm₁ : Vm) (B : Pt), s.WarmedH vm₁ ∧ Stand p l e R s m args below meth c B.U B.locs B.cells B.slots ∧ PostX ⟨T.setVm vm₁, locs, cells, slots⟩ (Value.ref b :: argsL).toArray q B ∧
      Steps p.tables e below (T.setTop g) ((B.U.setTop { g with stack := rest }).pushFrame (.throwing q))) := by
  obtain ⟨r0, r, hn, hrm, hstR, hsigR⟩ := Cond.declares_spec hdecl
  obtain ⟨cL, kL, r1, hcL, hkL, hiL, hfoundL, hn1⟩ := Cond.interfaceMethod_spec hface
  cases hn.symm.trans hn1
  have hr0cls : r0.cls = cL := Option.some.inj ((findClass_of_methodNamed hn).symm.trans hcL)
  obtain ⟨hnameR, hdescR⟩ := name_of_methodNamed hn hrm
  obtain ⟨mk, methM, hnamed, hmethM, -, habM⟩ := Cond.instanceMethod_spec hinst
  obtain ⟨c2, r2, m2, q1, q2, q3, q4, -⟩ := Cond.selects_spec hsel
  cases hcls.symm.trans q1
  cases hfoundL.symm.trans q2
  cases hnamed.symm.trans q3
  have hselP : selectMethod e.platform s.vm cellB.cls r0 = .method mk := by rw [Launch.admits_selectMethod X.admits]; exact q4
  have hpubM : hasFlag methM.accessFlags Acc.public_ = true := Cond.publicMethod_spec hnamed hmethM hpub
  have hway : ((cellB.cls :: s.vm.superclasses cellB.cls).any fun k => (declaredIn s.vm r.name r.desc k).any fun (_, z) => z.isPrivate || z.isStatic) = false := by
    rw [hnameR, hdescR]; exact Cond.unhidden_spec hcls hunh
  obtain ⟨c3, t3, w1, w2, w3⟩ := Cond.castable_spec hcast
  cases hcls.symm.trans w1
  cases hcL.symm.trans w2
  obtain ⟨vm₁, X₁, hstep₁⟩ := X.invokeinterface hexec hown hlink hn hrm hstR (by rw [hr0cls]; exact hkL) hiL hx (a := b) (cell := cellB) (kcell := kB) hcell
    (fun z h => by rw [h] at hobj; cases hobj) hkB (by rw [hr0cls]; exact w3) hselP hmethM hway hpubM habM (g := g) hg (argsL := argsL) (rest := rest) (hlen _ hsigR) hstack hdg
  rcases hK m meth c ⟨T.setVm vm₁, locs, cells, slots⟩ { g with stack := rest } (.invokeinterface index count) mk (Value.ref b :: argsL).toArray X₁ hg hsize hdg hW (X₁.named hnamed) (hpre vm₁ X₁.warmed) with ⟨v, B, X', hpost, hsteps⟩ | ⟨q, B, X', hpost, hsteps⟩
  · exact Or.inl ⟨v, vm₁, B, X₁.warmed, X', hpost, fun target h => hstep₁ _ fun acts => by rw [doInvoke_state]; exact hsteps.trans h⟩
  · exact Or.inr ⟨q, vm₁, B, X₁.warmed, X', hpost, hstep₁ _ fun acts => by rw [doInvoke_state]; exact hsteps⟩
theorem vx_runF {x y : MethodName} {bytes cc : ByteArray} {maxL nL mc ms n index count : Nat} {ret : Option FieldType} {ws : List Cond} {rm : Room} {Pc : Array Value → State → Prop} {Qc : Array Value → State → Outcome → State → Prop} {XC : String → State → State → Prop} {free : Addr → Prop} {Ts : List Cond} {own C : String} {cC : ClassId} {b : Addr} {As rest : List Value} {g : JFrame}
    (hat : ClassAt s C cC) (S : CallFix p m c cc nL s args Ts own) (hM : vx_Met l y ws rm Pc Qc XC mc ms free) (cw : va_CI R s args own C index x y bytes maxL ret ws rm mc ms n) (hp : PreV s H C b Pc As)
    (hg : g.method = m) (hn : As.length = n) (hsize : g.locals.size = nL) (hstack : g.stack = As.reverse ++ .ref b :: rest) (hW : 2 * g.monitorRoom + (rest.map fun v => v.category).sum ≤ 8) (hdg : decode cc g.pc = .ok (.invokeinterface index count, 5)) (hf : cells + mc ≤ R.cells ∧ slots + ms ≤ R.slots) :
    vx_Run5 p l e R s m args below meth c H locs cells slots mc ms g rest (Qc (Value.ref b :: As).toArray) XC free := by
  obtain ⟨hrc, hrs, hfr, hlo, hws, hcw⟩ := cw.back
  have hini := cw.init
  have hK : vx_Back l R p e below s args y 5 8 (PreOf R mc ms Pc) (PostOf Qc mc ms free) (vx_Post XC mc ms free) := vx_back (bytes := bytes) (maxL := maxL) (ret := ret) hM hp.1 hrc hrs hfr hlo hws hcw (fun a' U hW => word_at hW (Or.inl (by first | rfl | simp [Cond.onTables, Cond.keeps, Cond.steady])) hini)
  obtain ⟨hx, hb, hml, ho, -⟩ := S
  obtain ⟨-, ⟨cellB, hcB, hoB, hclB⟩, hPc⟩ := hp
  obtain ⟨hfc, kB, hkB, -⟩ := hat
  cases hfc.symm.trans hclB
  intro T hT X
  rcases vx_callIF X hx (C := C) (bytes := bytes) (maxL := maxL) (ret := ret) ho cw.link cw.decl cw.face cw.sel cw.inst cw.pub cw.unh cw.cast cw.code cw.notMH hK (by rw [hT]; exact hcB) hoB hclB hkB hg (hsize.trans hml.symm) (argsL := As) (rest := rest) (fun sig h => hn.trans (cw.len sig h)) hstack hW (by rw [hb]; exact hdg)
    (fun vm₁ hW₁ => ⟨hf.1, hf.2, hPc (T.setVm vm₁) hT hW₁⟩) with ⟨v, vm₁, ⟨U', l2, c2, s2⟩, hW₁, X', ⟨g', mk, t, L, e1, e2, hq, h1, hL, h2, h3⟩, st⟩ | ⟨q, vm₁, ⟨U', l2, c2, s2⟩, hW₁, X', ⟨g', mk, t, L, E, ce, e1, e2, hq, hce, hcv, hcl, h1, hL, h2, h3⟩, st⟩
  · dsimp only [Pt.U, Pt.locs, Pt.cells, Pt.slots] at X' e1 e2 h1 h2 h3 st
    subst h1; subst h2; subst h3
    exact Or.inl ⟨v, (T.setVm vm₁).calling g' mk (Value.ref b :: As).toArray, t, U', L, hT, X', hL, e1, e2, hq, st⟩
  · dsimp only [Pt.U, Pt.locs, Pt.cells, Pt.slots] at X' e1 e2 h1 h2 h3 st hcl
    subst h1; subst h2; subst h3
    exact Or.inr ⟨q, (T.setVm vm₁).calling g' mk (Value.ref b :: As).toArray, t, U', L, E, ce, hT, X', hL, e1, e2, hq, hce, hcv, vx_cls hW₁ hcl, st⟩
theorem vx_callFv {S SX : Type} {post : S → Prop} {px : SX → Prop} {B : S → State → Prop} {BX : String → SX → State → Prop} {AX : Nat → Prop} (hr : vx_Run5 p l e R s m args below meth c H locs cells slots mc ms (F0 m pc ls st0) rest (va_Qv post B A1 a) (vx_X px BX AX) free) (hS : va_S A0 H0 H locs) (hA : ∀ q, q < H.size → A1 q → A0 q) (hf : ∀ q, free q → A0 q) (hAX : ∀ q, q < H.size → AX q → A0 q)
    (kx : ∀ (E : String) (ce : Cell) (q9 : Addr) (u : SX) (t : State) (H1 : Heap) (locs1 : List Loc), t.heap = H1 → s.vm.Alike t.vm → px u → BX E u t → H.size ≤ H1.size → (∀ q : Nat, q < H.size → ¬ AX q → H1[q]? = H[q]?) → va_S A0 H0 H1 locs1 → H1[q9]? = some ce → ce.vm = .none → s.vm.findClass E = some ce.cls → vx_W p l e R s m args below meth c H1 locs1 (cells + mc) (slots + ms) Q (F0 m pc ls rest) q9)
    (kk : ∀ (u : S) (t : State) (H1 : Heap) (locs1 : List Loc), t.heap = H1 → s.vm.Alike t.vm → post u → B u t → H.size ≤ H1.size → (∀ q : Nat, q < H.size → ¬ A1 q → H1[q]? = H[q]?) → va_S A0 H0 H1 locs1 → W p l e R s m args below meth c H1 locs1 (cells + mc) (slots + ms) Q (F0 m (pc + 5) ls (rest))) : W p l e R s m args below meth c H locs cells slots Q (F0 m pc ls st0) := by
  intro T hT X
  rcases hr T hT X with ⟨v, st₀, t, T', L, h0, X', hL, e1, e2, ⟨⟨u, hv, hp, hb⟩, hF⟩, st⟩ | ⟨q, st₀, t, T', L, E, ce, h0, X', hL, e1, e2, ⟨u, hp, hb, hF⟩, hce, hcv, hcl, st⟩
  · cases hv
    obtain ⟨k1, k2, k3⟩ := vx_keep h0 e1 hS hA hf hL hF
    obtain ⟨t2, a1, b1⟩ := kk u t T'.heap (locs ++ L) e1.symm (by rw [← e2]; exact X'.warmed.alike) hp hb k1 k2 k3 T' rfl X'
    exact ⟨t2, st t2 a1, b1⟩
  · obtain ⟨k1, k2, k3⟩ := vx_keep h0 e1 hS hAX hf hL hF
    obtain ⟨t2, a1, b1⟩ := kx E ce q u t T'.heap (locs ++ L) e1.symm (by rw [← e2]; exact X'.warmed.alike) hp hb k1 k2 k3 (by rw [e1]; exact hce) hcv hcl T' rfl X'
    exact ⟨t2, st.trans a1, b1⟩
theorem vx_callFi {S SX : Type} {post : Int32 → S → Prop} {px : SX → Prop} {B : S → State → Prop} {BX : String → SX → State → Prop} {AX : Nat → Prop} (hr : vx_Run5 p l e R s m args below meth c H locs cells slots mc ms (F0 m pc ls st0) rest (va_Qi post B A1 a) (vx_X px BX AX) free) (hS : va_S A0 H0 H locs) (hA : ∀ q, q < H.size → A1 q → A0 q) (hf : ∀ q, free q → A0 q) (hAX : ∀ q, q < H.size → AX q → A0 q)
    (kx : ∀ (E : String) (ce : Cell) (q9 : Addr) (u : SX) (t : State) (H1 : Heap) (locs1 : List Loc), t.heap = H1 → s.vm.Alike t.vm → px u → BX E u t → H.size ≤ H1.size → (∀ q : Nat, q < H.size → ¬ AX q → H1[q]? = H[q]?) → va_S A0 H0 H1 locs1 → H1[q9]? = some ce → ce.vm = .none → s.vm.findClass E = some ce.cls → vx_W p l e R s m args below meth c H1 locs1 (cells + mc) (slots + ms) Q (F0 m pc ls rest) q9)
    (kk : ∀ (r : Int32) (u : S) (t : State) (H1 : Heap) (locs1 : List Loc), t.heap = H1 → s.vm.Alike t.vm → post r u → B u t → H.size ≤ H1.size → (∀ q : Nat, q < H.size → ¬ A1 q → H1[q]? = H[q]?) → va_S A0 H0 H1 locs1 → W p l e R s m args below meth c H1 locs1 (cells + mc) (slots + ms) Q (F0 m (pc + 5) ls (.int r :: rest))) : W p l e R s m args below meth c H locs cells slots Q (F0 m pc ls st0) := by
  intro T hT X
  rcases hr T hT X with ⟨v, st₀, t, T', L, h0, X', hL, e1, e2, ⟨⟨r, u, hv, hp, hb⟩, hF⟩, st⟩ | ⟨q, st₀, t, T', L, E, ce, h0, X', hL, e1, e2, ⟨u, hp, hb, hF⟩, hce, hcv, hcl, st⟩
  · cases hv
    obtain ⟨k1, k2, k3⟩ := vx_keep h0 e1 hS hA hf hL hF
    obtain ⟨t2, a1, b1⟩ := kk r u t T'.heap (locs ++ L) e1.symm (by rw [← e2]; exact X'.warmed.alike) hp hb k1 k2 k3 T' rfl X'
    exact ⟨t2, st t2 a1, b1⟩
  · obtain ⟨k1, k2, k3⟩ := vx_keep h0 e1 hS hAX hf hL hF
    obtain ⟨t2, a1, b1⟩ := kx E ce q u t T'.heap (locs ++ L) e1.symm (by rw [← e2]; exact X'.warmed.alike) hp hb k1 k2 k3 (by rw [e1]; exact hce) hcv hcl T' rfl X'
    exact ⟨t2, st.trans a1, b1⟩
theorem vx_callFl {S SX : Type} {post : Int64 → S → Prop} {px : SX → Prop} {B : S → State → Prop} {BX : String → SX → State → Prop} {AX : Nat → Prop} (hr : vx_Run5 p l e R s m args below meth c H locs cells slots mc ms (F0 m pc ls st0) rest (va_Ql post B A1 a) (vx_X px BX AX) free) (hS : va_S A0 H0 H locs) (hA : ∀ q, q < H.size → A1 q → A0 q) (hf : ∀ q, free q → A0 q) (hAX : ∀ q, q < H.size → AX q → A0 q)
    (kx : ∀ (E : String) (ce : Cell) (q9 : Addr) (u : SX) (t : State) (H1 : Heap) (locs1 : List Loc), t.heap = H1 → s.vm.Alike t.vm → px u → BX E u t → H.size ≤ H1.size → (∀ q : Nat, q < H.size → ¬ AX q → H1[q]? = H[q]?) → va_S A0 H0 H1 locs1 → H1[q9]? = some ce → ce.vm = .none → s.vm.findClass E = some ce.cls → vx_W p l e R s m args below meth c H1 locs1 (cells + mc) (slots + ms) Q (F0 m pc ls rest) q9)
    (kk : ∀ (r : Int64) (u : S) (t : State) (H1 : Heap) (locs1 : List Loc), t.heap = H1 → s.vm.Alike t.vm → post r u → B u t → H.size ≤ H1.size → (∀ q : Nat, q < H.size → ¬ A1 q → H1[q]? = H[q]?) → va_S A0 H0 H1 locs1 → W p l e R s m args below meth c H1 locs1 (cells + mc) (slots + ms) Q (F0 m (pc + 5) ls (.long r :: rest))) : W p l e R s m args below meth c H locs cells slots Q (F0 m pc ls st0) := by
  intro T hT X
  rcases hr T hT X with ⟨v, st₀, t, T', L, h0, X', hL, e1, e2, ⟨⟨r, u, hv, hp, hb⟩, hF⟩, st⟩ | ⟨q, st₀, t, T', L, E, ce, h0, X', hL, e1, e2, ⟨u, hp, hb, hF⟩, hce, hcv, hcl, st⟩
  · cases hv
    obtain ⟨k1, k2, k3⟩ := vx_keep h0 e1 hS hA hf hL hF
    obtain ⟨t2, a1, b1⟩ := kk r u t T'.heap (locs ++ L) e1.symm (by rw [← e2]; exact X'.warmed.alike) hp hb k1 k2 k3 T' rfl X'
    exact ⟨t2, st t2 a1, b1⟩
  · obtain ⟨k1, k2, k3⟩ := vx_keep h0 e1 hS hAX hf hL hF
    obtain ⟨t2, a1, b1⟩ := kx E ce q u t T'.heap (locs ++ L) e1.symm (by rw [← e2]; exact X'.warmed.alike) hp hb k1 k2 k3 (by rw [e1]; exact hce) hcv hcl T' rfl X'
    exact ⟨t2, st.trans a1, b1⟩
theorem vx_callFf {S SX : Type} {post : UInt32 → S → Prop} {px : SX → Prop} {B : S → State → Prop} {BX : String → SX → State → Prop} {AX : Nat → Prop} (hr : vx_Run5 p l e R s m args below meth c H locs cells slots mc ms (F0 m pc ls st0) rest (va_Qf post B A1 a) (vx_X px BX AX) free) (hS : va_S A0 H0 H locs) (hA : ∀ q, q < H.size → A1 q → A0 q) (hf : ∀ q, free q → A0 q) (hAX : ∀ q, q < H.size → AX q → A0 q)
    (kx : ∀ (E : String) (ce : Cell) (q9 : Addr) (u : SX) (t : State) (H1 : Heap) (locs1 : List Loc), t.heap = H1 → s.vm.Alike t.vm → px u → BX E u t → H.size ≤ H1.size → (∀ q : Nat, q < H.size → ¬ AX q → H1[q]? = H[q]?) → va_S A0 H0 H1 locs1 → H1[q9]? = some ce → ce.vm = .none → s.vm.findClass E = some ce.cls → vx_W p l e R s m args below meth c H1 locs1 (cells + mc) (slots + ms) Q (F0 m pc ls rest) q9)
    (kk : ∀ (r : UInt32) (u : S) (t : State) (H1 : Heap) (locs1 : List Loc), t.heap = H1 → s.vm.Alike t.vm → post r u → B u t → H.size ≤ H1.size → (∀ q : Nat, q < H.size → ¬ A1 q → H1[q]? = H[q]?) → va_S A0 H0 H1 locs1 → W p l e R s m args below meth c H1 locs1 (cells + mc) (slots + ms) Q (F0 m (pc + 5) ls (.float r :: rest))) : W p l e R s m args below meth c H locs cells slots Q (F0 m pc ls st0) := by
  intro T hT X
  rcases hr T hT X with ⟨v, st₀, t, T', L, h0, X', hL, e1, e2, ⟨⟨r, u, hv, hp, hb⟩, hF⟩, st⟩ | ⟨q, st₀, t, T', L, E, ce, h0, X', hL, e1, e2, ⟨u, hp, hb, hF⟩, hce, hcv, hcl, st⟩
  · cases hv
    obtain ⟨k1, k2, k3⟩ := vx_keep h0 e1 hS hA hf hL hF
    obtain ⟨t2, a1, b1⟩ := kk r u t T'.heap (locs ++ L) e1.symm (by rw [← e2]; exact X'.warmed.alike) hp hb k1 k2 k3 T' rfl X'
    exact ⟨t2, st t2 a1, b1⟩
  · obtain ⟨k1, k2, k3⟩ := vx_keep h0 e1 hS hAX hf hL hF
    obtain ⟨t2, a1, b1⟩ := kx E ce q u t T'.heap (locs ++ L) e1.symm (by rw [← e2]; exact X'.warmed.alike) hp hb k1 k2 k3 (by rw [e1]; exact hce) hcv hcl T' rfl X'
    exact ⟨t2, st.trans a1, b1⟩
theorem vx_callFd {S SX : Type} {post : UInt64 → S → Prop} {px : SX → Prop} {B : S → State → Prop} {BX : String → SX → State → Prop} {AX : Nat → Prop} (hr : vx_Run5 p l e R s m args below meth c H locs cells slots mc ms (F0 m pc ls st0) rest (va_Qd post B A1 a) (vx_X px BX AX) free) (hS : va_S A0 H0 H locs) (hA : ∀ q, q < H.size → A1 q → A0 q) (hf : ∀ q, free q → A0 q) (hAX : ∀ q, q < H.size → AX q → A0 q)
    (kx : ∀ (E : String) (ce : Cell) (q9 : Addr) (u : SX) (t : State) (H1 : Heap) (locs1 : List Loc), t.heap = H1 → s.vm.Alike t.vm → px u → BX E u t → H.size ≤ H1.size → (∀ q : Nat, q < H.size → ¬ AX q → H1[q]? = H[q]?) → va_S A0 H0 H1 locs1 → H1[q9]? = some ce → ce.vm = .none → s.vm.findClass E = some ce.cls → vx_W p l e R s m args below meth c H1 locs1 (cells + mc) (slots + ms) Q (F0 m pc ls rest) q9)
    (kk : ∀ (r : UInt64) (u : S) (t : State) (H1 : Heap) (locs1 : List Loc), t.heap = H1 → s.vm.Alike t.vm → post r u → B u t → H.size ≤ H1.size → (∀ q : Nat, q < H.size → ¬ A1 q → H1[q]? = H[q]?) → va_S A0 H0 H1 locs1 → W p l e R s m args below meth c H1 locs1 (cells + mc) (slots + ms) Q (F0 m (pc + 5) ls (.double r :: rest))) : W p l e R s m args below meth c H locs cells slots Q (F0 m pc ls st0) := by
  intro T hT X
  rcases hr T hT X with ⟨v, st₀, t, T', L, h0, X', hL, e1, e2, ⟨⟨r, u, hv, hp, hb⟩, hF⟩, st⟩ | ⟨q, st₀, t, T', L, E, ce, h0, X', hL, e1, e2, ⟨u, hp, hb, hF⟩, hce, hcv, hcl, st⟩
  · cases hv
    obtain ⟨k1, k2, k3⟩ := vx_keep h0 e1 hS hA hf hL hF
    obtain ⟨t2, a1, b1⟩ := kk r u t T'.heap (locs ++ L) e1.symm (by rw [← e2]; exact X'.warmed.alike) hp hb k1 k2 k3 T' rfl X'
    exact ⟨t2, st t2 a1, b1⟩
  · obtain ⟨k1, k2, k3⟩ := vx_keep h0 e1 hS hAX hf hL hF
    obtain ⟨t2, a1, b1⟩ := kx E ce q u t T'.heap (locs ++ L) e1.symm (by rw [← e2]; exact X'.warmed.alike) hp hb k1 k2 k3 (by rw [e1]; exact hce) hcv hcl T' rfl X'
    exact ⟨t2, st.trans a1, b1⟩
end
/-! ===== END ===== -/
/-! ===== BEGIN by an interface, a method with a table of its own that may throw (follows va_callIFW, va_runFW) ===== -/
section
variable {p : Program} {l : Launch} {e : Env} {R : Room} {s : State} {m : MethodId} {args : Array Value} {below : List Frame} {meth : Method} {c : Code} {H : Heap} {locs : List Loc} {cells slots : Nat}
theorem vx_callIFW {T : State} (X : Stand p l e R s m args below meth c T locs cells slots) (hexec : p.tables.exec = Jvm.exec) {own C : String} {index count : Nat} {x y : MethodName} {bytes : ByteArray} {maxL : Nat} {ret : Option FieldType} {hh : List (Nat × Nat × Nat × Nat)}
    (hown : s.vm.findClass own = some m.cls) (hlink : (Cond.methodLink own index x).before args s = true) (hdecl : (Cond.declares x).before args s = true) (hface : (Cond.interfaceMethod x.cls x.cls x.name x.desc).before args s = true)
    (hsel : (Cond.selects C x y).before args s = true) (hinst : (Cond.instanceMethod y).before args s = true) (hpub : (Cond.publicMethod y).before args s = true) (hunh : (Cond.unhidden C x.name x.desc).before args s = true)
    (hcast : (Cond.castable C x.cls).before args s = true) (hcode : (Cond.codeWith y bytes maxL ret hh).before args s = true) (hx : x.cls ≠ "java/lang/invoke/MethodHandle" ∧ x.cls ≠ "java/lang/invoke/VarHandle")
    {W : Nat} {Pre : Pt → Array Value → Prop} {Post : Pt → Array Value → Option Value → Pt → Prop} {PostX : Pt → Array Value → Addr → Pt → Prop} (hK : vx_Back l R p e below s args y 5 W Pre Post PostX)
    {b : Addr} {cellB : Cell} {kB : Class} (hcell : T.heap[b]? = some cellB) (hobj : cellB.vm.isStatics = false) (hcls : s.vm.findClass C = some cellB.cls) (hkB : s.vm.classes[cellB.cls]? = some kB)
    {g : JFrame} (hg : g.method = m) (hsize : g.locals.size = c.maxLocals) {argsL rest : List Value} (hlen : ∀ sig, parseMethodDescriptor x.desc = some sig → argsL.length = sig.parameters.length)
    (hstack : g.stack = argsL.reverse ++ .ref b :: rest) (hW : 2 * g.monitorRoom + (rest.map fun v => v.category).sum ≤ W) (hdg : decode c.code g.pc = .ok (.invokeinterface index count, 5))
    (hpre : ∀ vm₁, s.WarmedH vm₁ → Pre ⟨T.setVm vm₁, locs, cells, slots⟩ (Value.ref b :: argsL).toArray) :
    (∃ (v : Option Value) (vm₁ : Vm) (B : Pt), s.WarmedH vm₁ ∧ Stand p l e R s m args below meth c B.U B.locs B.cells B.slots ∧ Post ⟨T.setVm vm₁, locs, cells, slots⟩ (Value.ref b :: argsL).toArray v B ∧
      ∀ target, Steps p.tables e below (B.U.setTop { g with pc := g.pc + 5, stack := v.toList ++ rest }) target → Steps p.tables e below (T.setTop g) target) ∨
    (∃ (q : Addr) (vm₁ : Vm) (B : Pt), s.WarmedH vm₁ ∧ Stand p l e R s m args below meth c B.U B.locs B.cells B.slots ∧ PostX ⟨T.setVm vm₁, locs, cells, slots⟩ (Value.ref b :: argsL).toArray q B ∧
      Steps p.tables e below (T.setTop g) ((B.U.setTop { g with stack := rest }).pushFrame (.throwing q))) := by
  obtain ⟨r0, r, hn, hrm, hstR, hsigR⟩ := Cond.declares_spec hdecl
  obtain ⟨cL, kL, r1, hcL, hkL, hiL, hfoundL, hn1⟩ := Cond.interfaceMethod_spec hface
  cases hn.symm.trans hn1
  have hr0cls : r0.cls = cL := Option.some.inj ((findClass_of_methodNamed hn).symm.trans hcL)
  obtain ⟨hnameR, hdescR⟩ := name_of_methodNamed hn hrm
  obtain ⟨mk, methM, hnamed, hmethM, -, habM⟩ := Cond.instanceMethod_spec hinst
  obtain ⟨c2, r2, m2, q1, q2, q3, q4, -⟩ := Cond.selects_spec hsel
  cases hcls.symm.trans q1
  cases hfoundL.symm.trans q2
  cases hnamed.symm.trans q3
  have hselP : selectMethod e.platform s.vm cellB.cls r0 = .method mk := by rw [Launch.admits_selectMethod X.admits]; exact q4
  have hpubM : hasFlag methM.accessFlags Acc.public_ = true := Cond.publicMethod_spec hnamed hmethM hpub
  have hway : ((cellB.cls :: s.vm.superclasses cellB.cls).any fun k => (declaredIn s.vm r.name r.desc k).any fun (_, z) => z.isPrivate || z.isStatic) = false := by
    rw [hnameR, hdescR]; exact Cond.unhidden_spec hcls hunh
  obtain ⟨c3, t3, w1, w2, w3⟩ := Cond.castable_spec hcast
  cases hcls.symm.trans w1
  cases hcL.symm.trans w2
  obtain ⟨vm₁, X₁, hstep₁⟩ := X.invokeinterface hexec hown hlink hn hrm hstR (by rw [hr0cls]; exact hkL) hiL hx (a := b) (cell := cellB) (kcell := kB) hcell
    (fun z h => by rw [h] at hobj; cases hobj) hkB (by rw [hr0cls]; exact w3) hselP hmethM hway hpubM habM (g := g) hg (argsL := argsL) (rest := rest) (hlen _ hsigR) hstack hdg
  rcases hK m meth c ⟨T.setVm vm₁, locs, cells, slots⟩ { g with stack := rest } (.invokeinterface index count) mk (Value.ref b :: argsL).toArray X₁ hg hsize hdg hW (X₁.named hnamed) (hpre vm₁ X₁.warmed) with ⟨v, B, X', hpost, hsteps⟩ | ⟨q, B, X', hpost, hsteps⟩
  · exact Or.inl ⟨v, vm₁, B, X₁.warmed, X', hpost, fun target h => hstep₁ _ fun acts => by rw [doInvoke_state]; exact hsteps.trans h⟩
  · exact Or.inr ⟨q, vm₁, B, X₁.warmed, X', hpost, hstep₁ _ fun acts => by rw [doInvoke_state]; exact hsteps⟩
theorem vx_runFW {x y : MethodName} {bytes cc : ByteArray} {maxL nL mc ms n index count : Nat} {ret : Option FieldType} {hh : List (Nat × Nat × Nat × Nat)} {ws : List Cond} {rm : Room} {Pc : Array Value → State → Prop} {Qc : Array Value → State → Outcome → State → Prop} {XC : String → State → State → Prop} {free : Addr → Prop} {Ts : List Cond} {own C : String} {cC : ClassId} {b : Addr} {As rest : List Value} {g : JFrame}
    (hat : ClassAt s C cC) (S : CallFix p m c cc nL s args Ts own) (hM : vx_Met l y ws rm Pc Qc XC mc ms free) (cw : va_CIW R s args own C index x y bytes maxL ret hh ws rm mc ms n) (hp : PreV s H C b Pc As)
    (hg : g.method = m) (hn : As.length = n) (hsize : g.locals.size = nL) (hstack : g.stack = As.reverse ++ .ref b :: rest) (hW : 2 * g.monitorRoom + (rest.map fun v => v.category).sum ≤ 8) (hdg : decode cc g.pc = .ok (.invokeinterface index count, 5)) (hf : cells + mc ≤ R.cells ∧ slots + ms ≤ R.slots) :
    vx_Run5 p l e R s m args below meth c H locs cells slots mc ms g rest (Qc (Value.ref b :: As).toArray) XC free := by
  obtain ⟨hrc, hrs, hfr, hlo, hws, hcw⟩ := cw.back
  have hini := cw.init
  have hK : vx_Back l R p e below s args y 5 8 (PreOf R mc ms Pc) (PostOf Qc mc ms free) (vx_Post XC mc ms free) := vx_backW (hh := hh) (bytes := bytes) (maxL := maxL) (ret := ret) hM hp.1 hrc hrs hfr hlo hws hcw (fun a' U hW => word_at hW (Or.inl (by first | rfl | simp [Cond.onTables, Cond.keeps, Cond.steady])) hini)
  obtain ⟨hx, hb, hml, ho, -⟩ := S
  obtain ⟨-, ⟨cellB, hcB, hoB, hclB⟩, hPc⟩ := hp
  obtain ⟨hfc, kB, hkB, -⟩ := hat
  cases hfc.symm.trans hclB
  intro T hT X
  rcases vx_callIFW X hx (C := C) (hh := hh) (bytes := bytes) (maxL := maxL) (ret := ret) ho cw.link cw.decl cw.face cw.sel cw.inst cw.pub cw.unh cw.cast cw.code cw.notMH hK (by rw [hT]; exact hcB) hoB hclB hkB hg (hsize.trans hml.symm) (argsL := As) (rest := rest) (fun sig h => hn.trans (cw.len sig h)) hstack hW (by rw [hb]; exact hdg)
    (fun vm₁ hW₁ => ⟨hf.1, hf.2, hPc (T.setVm vm₁) hT hW₁⟩) with ⟨v, vm₁, ⟨U', l2, c2, s2⟩, hW₁, X', ⟨g', mk, t, L, e1, e2, hq, h1, hL, h2, h3⟩, st⟩ | ⟨q, vm₁, ⟨U', l2, c2, s2⟩, hW₁, X', ⟨g', mk, t, L, E, ce, e1, e2, hq, hce, hcv, hcl, h1, hL, h2, h3⟩, st⟩
  · dsimp only [Pt.U, Pt.locs, Pt.cells, Pt.slots] at X' e1 e2 h1 h2 h3 st
    subst h1; subst h2; subst h3
    exact Or.inl ⟨v, (T.setVm vm₁).calling g' mk (Value.ref b :: As).toArray, t, U', L, hT, X', hL, e1, e2, hq, st⟩
  · dsimp only [Pt.U, Pt.locs, Pt.cells, Pt.slots] at X' e1 e2 h1 h2 h3 st hcl
    subst h1; subst h2; subst h3
    exact Or.inr ⟨q, (T.setVm vm₁).calling g' mk (Value.ref b :: As).toArray, t, U', L, E, ce, hT, X', hL, e1, e2, hq, hce, hcv, vx_cls hW₁ hcl, st⟩
end
/-! ===== END ===== -/
/-! ===== BEGIN .. of methods that hand back an object of the pool ===== -/
section
variable {p : Program} {l : Launch} {e : Env} {R : Room} {s : State} {m : MethodId} {args : Array Value} {below : List Frame} {meth : Method} {c : Code} {H : Heap} {locs : List Loc} {cells slots : Nat} {Q : State → Prop}
variable {mc ms : Nat} {free : Addr → Prop} {A0 A1 : Nat → Prop} {H0 : Heap} {a : Array Value} {pc : Nat} {ls : Array Slot} {st0 rest : List Value}
theorem vx_callq {S SX : Type} {post : Option Nat → S → Prop} {px : SX → Prop} {B : S → State → Prop} {BX : String → SX → State → Prop} {AX : Nat → Prop} (hr : vx_Run p l e R s m args below meth c H locs cells slots mc ms (F0 m pc ls st0) rest (va_Qq post B A1 a) (vx_X px BX AX) free) (hS : va_S A0 H0 H locs) (hA : ∀ q, q < H.size → A1 q → A0 q) (hf : ∀ q, free q → A0 q) (hAX : ∀ q, q < H.size → AX q → A0 q)
    (kx : ∀ (E : String) (ce : Cell) (q9 : Addr) (u : SX) (t : State) (H1 : Heap) (locs1 : List Loc), t.heap = H1 → s.vm.Alike t.vm → px u → BX E u t → H.size ≤ H1.size → (∀ q : Nat, q < H.size → ¬ AX q → H1[q]? = H[q]?) → va_S A0 H0 H1 locs1 → H1[q9]? = some ce → ce.vm = .none → s.vm.findClass E = some ce.cls → vx_W p l e R s m args below meth c H1 locs1 (cells + mc) (slots + ms) Q (F0 m pc ls rest) q9)
    (kk : ∀ (r : Option Nat) (u : S) (t : State) (H1 : Heap) (locs1 : List Loc), t.heap = H1 → s.vm.Alike t.vm → post r u → B u t → H.size ≤ H1.size → (∀ q : Nat, q < H.size → ¬ A1 q → H1[q]? = H[q]?) → va_S A0 H0 H1 locs1 → W p l e R s m args below meth c H1 locs1 (cells + mc) (slots + ms) Q (F0 m (pc + 3) ls (va_rf r :: rest))) : W p l e R s m args below meth c H locs cells slots Q (F0 m pc ls st0) := by
  intro T hT X
  rcases hr T hT X with ⟨v, st₀, t, T', L, h0, X', hL, e1, e2, ⟨⟨r, u, hv, hp, hb⟩, hF⟩, st⟩ | ⟨q, st₀, t, T', L, E, ce, h0, X', hL, e1, e2, ⟨u, hp, hb, hF⟩, hce, hcv, hcl, st⟩
  · cases hv
    obtain ⟨k1, k2, k3⟩ := vx_keep h0 e1 hS hA hf hL hF
    obtain ⟨t2, a1, b1⟩ := kk r u t T'.heap (locs ++ L) e1.symm (by rw [← e2]; exact X'.warmed.alike) hp hb k1 k2 k3 T' rfl X'
    exact ⟨t2, st t2 a1, b1⟩
  · obtain ⟨k1, k2, k3⟩ := vx_keep h0 e1 hS hAX hf hL hF
    obtain ⟨t2, a1, b1⟩ := kx E ce q u t T'.heap (locs ++ L) e1.symm (by rw [← e2]; exact X'.warmed.alike) hp hb k1 k2 k3 (by rw [e1]; exact hce) hcv hcl T' rfl X'
    exact ⟨t2, st.trans a1, b1⟩
end
/-! ===== END ===== -/
/-! ===== BEGIN .. a constant ===== -/
section
variable {p : Program} {l : Launch} {e : Env} {R : Room} {s : State} {m : MethodId} {args : Array Value} {below : List Frame} {meth : Method} {c : Code} {H : Heap} {locs : List Loc} {cells slots : Nat} {Q : State → Prop}
variable {mc ms : Nat} {free : Addr → Prop} {A0 A1 : Nat → Prop} {H0 : Heap} {a : Array Value} {pc : Nat} {ls : Array Slot} {st0 rest : List Value}
theorem vx_calle {ad : Nat → Nat} {S SX : Type} {post : Option Nat → S → Prop} {px : SX → Prop} {B : S → State → Prop} {BX : String → SX → State → Prop} {AX : Nat → Prop} (hr : vx_Run p l e R s m args below meth c H locs cells slots mc ms (F0 m pc ls st0) rest (va_Qe ad post B A1 a) (vx_X px BX AX) free) (hS : va_S A0 H0 H locs) (hA : ∀ q, q < H.size → A1 q → A0 q) (hf : ∀ q, free q → A0 q) (hAX : ∀ q, q < H.size → AX q → A0 q)
    (kx : ∀ (E : String) (ce : Cell) (q9 : Addr) (u : SX) (t : State) (H1 : Heap) (locs1 : List Loc), t.heap = H1 → s.vm.Alike t.vm → px u → BX E u t → H.size ≤ H1.size → (∀ q : Nat, q < H.size → ¬ AX q → H1[q]? = H[q]?) → va_S A0 H0 H1 locs1 → H1[q9]? = some ce → ce.vm = .none → s.vm.findClass E = some ce.cls → vx_W p l e R s m args below meth c H1 locs1 (cells + mc) (slots + ms) Q (F0 m pc ls rest) q9)
    (kk : ∀ (r : Option Nat) (u : S) (t : State) (H1 : Heap) (locs1 : List Loc), t.heap = H1 → s.vm.Alike t.vm → post r u → B u t → H.size ≤ H1.size → (∀ q : Nat, q < H.size → ¬ A1 q → H1[q]? = H[q]?) → va_S A0 H0 H1 locs1 → W p l e R s m args below meth c H1 locs1 (cells + mc) (slots + ms) Q (F0 m (pc + 3) ls (va_re ad r :: rest))) : W p l e R s m args below meth c H locs cells slots Q (F0 m pc ls st0) := by
  intro T hT X
  rcases hr T hT X with ⟨v, st₀, t, T', L, h0, X', hL, e1, e2, ⟨⟨r, u, hv, hp, hb⟩, hF⟩, st⟩ | ⟨q, st₀, t, T', L, E, ce, h0, X', hL, e1, e2, ⟨u, hp, hb, hF⟩, hce, hcv, hcl, st⟩
  · cases hv
    obtain ⟨k1, k2, k3⟩ := vx_keep h0 e1 hS hA hf hL hF
    obtain ⟨t2, a1, b1⟩ := kk r u t T'.heap (locs ++ L) e1.symm (by rw [← e2]; exact X'.warmed.alike) hp hb k1 k2 k3 T' rfl X'
    exact ⟨t2, st t2 a1, b1⟩
  · obtain ⟨k1, k2, k3⟩ := vx_keep h0 e1 hS hAX hf hL hF
    obtain ⟨t2, a1, b1⟩ := kx E ce q u t T'.heap (locs ++ L) e1.symm (by rw [← e2]; exact X'.warmed.alike) hp hb k1 k2 k3 (by rw [e1]; exact hce) hcv hcl T' rfl X'
    exact ⟨t2, st.trans a1, b1⟩
end
/-! ===== END ===== -/
/-! ===== BEGIN .. by an interface, an object ===== -/
section
variable {p : Program} {l : Launch} {e : Env} {R : Room} {s : State} {m : MethodId} {args : Array Value} {below : List Frame} {meth : Method} {c : Code} {H : Heap} {locs : List Loc} {cells slots : Nat} {Q : State → Prop}
variable {mc ms : Nat} {free : Addr → Prop} {A0 A1 : Nat → Prop} {H0 : Heap} {a : Array Value} {pc : Nat} {ls : Array Slot} {st0 rest : List Value}
theorem vx_callFq {S SX : Type} {post : Option Nat → S → Prop} {px : SX → Prop} {B : S → State → Prop} {BX : String → SX → State → Prop} {AX : Nat → Prop} (hr : vx_Run5 p l e R s m args below meth c H locs cells slots mc ms (F0 m pc ls st0) rest (va_Qq post B A1 a) (vx_X px BX AX) free) (hS : va_S A0 H0 H locs) (hA : ∀ q, q < H.size → A1 q → A0 q) (hf : ∀ q, free q → A0 q) (hAX : ∀ q, q < H.size → AX q → A0 q)
    (kx : ∀ (E : String) (ce : Cell) (q9 : Addr) (u : SX) (t : State) (H1 : Heap) (locs1 : List Loc), t.heap = H1 → s.vm.Alike t.vm → px u → BX E u t → H.size ≤ H1.size → (∀ q : Nat, q < H.size → ¬ AX q → H1[q]? = H[q]?) → va_S A0 H0 H1 locs1 → H1[q9]? = some ce → ce.vm = .none → s.vm.findClass E = some ce.cls → vx_W p l e R s m args below meth c H1 locs1 (cells + mc) (slots + ms) Q (F0 m pc ls rest) q9)
    (kk : ∀ (r : Option Nat) (u : S) (t : State) (H1 : Heap) (locs1 : List Loc), t.heap = H1 → s.vm.Alike t.vm → post r u → B u t → H.size ≤ H1.size → (∀ q : Nat, q < H.size → ¬ A1 q → H1[q]? = H[q]?) → va_S A0 H0 H1 locs1 → W p l e R s m args below meth c H1 locs1 (cells + mc) (slots + ms) Q (F0 m (pc + 5) ls (va_rf r :: rest))) : W p l e R s m args below meth c H locs cells slots Q (F0 m pc ls st0) := by
  intro T hT X
  rcases hr T hT X with ⟨v, st₀, t, T', L, h0, X', hL, e1, e2, ⟨⟨r, u, hv, hp, hb⟩, hF⟩, st⟩ | ⟨q, st₀, t, T', L, E, ce, h0, X', hL, e1, e2, ⟨u, hp, hb, hF⟩, hce, hcv, hcl, st⟩
  · cases hv
    obtain ⟨k1, k2, k3⟩ := vx_keep h0 e1 hS hA hf hL hF
    obtain ⟨t2, a1, b1⟩ := kk r u t T'.heap (locs ++ L) e1.symm (by rw [← e2]; exact X'.warmed.alike) hp hb k1 k2 k3 T' rfl X'
    exact ⟨t2, st t2 a1, b1⟩
  · obtain ⟨k1, k2, k3⟩ := vx_keep h0 e1 hS hAX hf hL hF
    obtain ⟨t2, a1, b1⟩ := kx E ce q u t T'.heap (locs ++ L) e1.symm (by rw [← e2]; exact X'.warmed.alike) hp hb k1 k2 k3 (by rw [e1]; exact hce) hcv hcl T' rfl X'
    exact ⟨t2, st.trans a1, b1⟩
end
/-! ===== END ===== -/
/-! ===== BEGIN .. by an interface, a constant ===== -/
section
variable {p : Program} {l : Launch} {e : Env} {R : Room} {s : State} {m : MethodId} {args : Array Value} {below : List Frame} {meth : Method} {c : Code} {H : Heap} {locs : List Loc} {cells slots : Nat} {Q : State → Prop}
variable {mc ms : Nat} {free : Addr → Prop} {A0 A1 : Nat → Prop} {H0 : Heap} {a : Array Value} {pc : Nat} {ls : Array Slot} {st0 rest : List Value}
theorem vx_callFe {ad : Nat → Nat} {S SX : Type} {post : Option Nat → S → Prop} {px : SX → Prop} {B : S → State → Prop} {BX : String → SX → State → Prop} {AX : Nat → Prop} (hr : vx_Run5 p l e R s m args below meth c H locs cells slots mc ms (F0 m pc ls st0) rest (va_Qe ad post B A1 a) (vx_X px BX AX) free) (hS : va_S A0 H0 H locs) (hA : ∀ q, q < H.size → A1 q → A0 q) (hf : ∀ q, free q → A0 q) (hAX : ∀ q, q < H.size → AX q → A0 q)
    (kx : ∀ (E : String) (ce : Cell) (q9 : Addr) (u : SX) (t : State) (H1 : Heap) (locs1 : List Loc), t.heap = H1 → s.vm.Alike t.vm → px u → BX E u t → H.size ≤ H1.size → (∀ q : Nat, q < H.size → ¬ AX q → H1[q]? = H[q]?) → va_S A0 H0 H1 locs1 → H1[q9]? = some ce → ce.vm = .none → s.vm.findClass E = some ce.cls → vx_W p l e R s m args below meth c H1 locs1 (cells + mc) (slots + ms) Q (F0 m pc ls rest) q9)
    (kk : ∀ (r : Option Nat) (u : S) (t : State) (H1 : Heap) (locs1 : List Loc), t.heap = H1 → s.vm.Alike t.vm → post r u → B u t → H.size ≤ H1.size → (∀ q : Nat, q < H.size → ¬ A1 q → H1[q]? = H[q]?) → va_S A0 H0 H1 locs1 → W p l e R s m args below meth c H1 locs1 (cells + mc) (slots + ms) Q (F0 m (pc + 5) ls (va_re ad r :: rest))) : W p l e R s m args below meth c H locs cells slots Q (F0 m pc ls st0) := by
  intro T hT X
  rcases hr T hT X with ⟨v, st₀, t, T', L, h0, X', hL, e1, e2, ⟨⟨r, u, hv, hp, hb⟩, hF⟩, st⟩ | ⟨q, st₀, t, T', L, E, ce, h0, X', hL, e1, e2, ⟨u, hp, hb, hF⟩, hce, hcv, hcl, st⟩
  · cases hv
    obtain ⟨k1, k2, k3⟩ := vx_keep h0 e1 hS hA hf hL hF
    obtain ⟨t2, a1, b1⟩ := kk r u t T'.heap (locs ++ L) e1.symm (by rw [← e2]; exact X'.warmed.alike) hp hb k1 k2 k3 T' rfl X'
    exact ⟨t2, st t2 a1, b1⟩
  · obtain ⟨k1, k2, k3⟩ := vx_keep h0 e1 hS hAX hf hL hF
    obtain ⟨t2, a1, b1⟩ := kx E ce q u t T'.heap (locs ++ L) e1.symm (by rw [← e2]; exact X'.warmed.alike) hp hb k1 k2 k3 (by rw [e1]; exact hce) hcv hcl T' rfl X'
    exact ⟨t2, st.trans a1, b1⟩
end
/-! ===== END ===== -/
/-! ===== BEGIN what the machine throws by itself: null at a field, at athrow ===== -/
section VXM2
variable {p : Program} {l : Launch} {e : Env} {R : Room} {s : State} {m : MethodId} {args : Array Value} {below : List Frame} {meth : Method} {c : Code} {H : Heap} {locs : List Loc} {cells slots : Nat}
variable {Q : State → Prop} {cc : ByteArray} {pc : Nat} {ls : Array Slot} {rest : List Value}
theorem vx_getfN {D cl tys} {own ref C : String} {T : u_T} {N ci index : Nat} {Ts : List Cond} (hexec : p.tables.exec = Jvm.exec) (hb : c.code = cc) (hts : ∀ w ∈ Ts, w.before args s = true) (hin : ∀ w ∈ u_ws C T N, w ∈ Ts) (hown : s.vm.findClass own = some m.cls) (hK : va_K D cl tys s) (hc : cl[ci]? = some (C, T, N)) (k : Nat) (hk : k < N) (hlink : (Cond.fieldLink own index ref (T k).2.1 (T k).2.2.1).before args s = true) (hsame : ∀ x, s.fieldFound? (T k).1 (T k).2.1 (T k).2.2.1 = some x → s.fieldFound? ref (T k).2.1 (T k).2.2.1 = some x) (hdg : decode cc pc = .ok (.getfield index, 3)) (kk : vx_NoteN p l e R s m args below meth c H locs cells slots Q (F0 m pc ls rest)) : W p l e R s m args below meth c H locs cells slots Q (F0 m pc ls (.null :: rest)) := by
  obtain ⟨hS, hfc, kC, hkC, -⟩ := hK.1 ci _ hc
  obtain ⟨cf, kf, fi, f, hi, -⟩ := hS k hk
  intro U hU X
  obtain ⟨vm', X1, st1⟩ := X.getfieldNull hexec hown hlink (hsame _ hi) (u_facts hfc hkC (u_lays hts hin hk) hi).1 (g := F0 m pc ls (.null :: rest)) rfl (rest := rest) rfl (by rw [hb]; exact hdg)
  obtain ⟨t, st, q⟩ := kk (U.setVm vm') hU X1
  exact ⟨t, st1 t st, q⟩
theorem vx_getfNN {D cl tys} {own ref C host : String} {T : u_T} {N ci index : Nat} {Ts : List Cond} (hexec : p.tables.exec = Jvm.exec) (hb : c.code = cc) (hts : ∀ w ∈ Ts, w.before args s = true) (hin : ∀ w ∈ u_ws C T N, w ∈ Ts) (hown : s.vm.findClass own = some m.cls) (hK : va_K D cl tys s) (hc : cl[ci]? = some (C, T, N)) (k : Nat) (hk : k < N) (hlink : (Cond.fieldLinkNest own index ref (T k).2.1 (T k).2.2.1 host).before args s = true) (hsame : ∀ x, s.fieldFound? (T k).1 (T k).2.1 (T k).2.2.1 = some x → s.fieldFound? ref (T k).2.1 (T k).2.2.1 = some x) (hdg : decode cc pc = .ok (.getfield index, 3)) (kk : vx_NoteN p l e R s m args below meth c H locs cells slots Q (F0 m pc ls rest)) : W p l e R s m args below meth c H locs cells slots Q (F0 m pc ls (.null :: rest)) := by
  obtain ⟨hS, hfc, kC, hkC, -⟩ := hK.1 ci _ hc
  obtain ⟨cf, kf, fi, f, hi, -⟩ := hS k hk
  intro U hU X
  obtain ⟨vm', X1, st1⟩ := X.getfieldNullNest hexec hown hlink (hsame _ hi) (u_facts hfc hkC (u_lays hts hin hk) hi).1 (g := F0 m pc ls (.null :: rest)) rfl (rest := rest) rfl (by rw [hb]; exact hdg)
  obtain ⟨t, st, q⟩ := kk (U.setVm vm') hU X1
  exact ⟨t, st1 t st, q⟩
theorem vx_putfN {D cl tys} {own ref C : String} {T : u_T} {N ci index : Nat} {Ts : List Cond} (hexec : p.tables.exec = Jvm.exec) (hb : c.code = cc) (hts : ∀ w ∈ Ts, w.before args s = true) (hin : ∀ w ∈ u_ws C T N, w ∈ Ts) (hown : s.vm.findClass own = some m.cls) (hK : va_K D cl tys s) (hc : cl[ci]? = some (C, T, N)) (k : Nat) (hk : k < N) (hlink : (Cond.fieldLink own index ref (T k).2.1 (T k).2.2.1).before args s = true) (hsame : ∀ x, s.fieldFound? (T k).1 (T k).2.1 (T k).2.2.1 = some x → s.fieldFound? ref (T k).2.1 (T k).2.2.1 = some x) (hfin : (T k).2.2.2 = false) {v : Value} (hdg : decode cc pc = .ok (.putfield index, 3)) (kk : vx_NoteN p l e R s m args below meth c H locs cells slots Q (F0 m pc ls rest)) : W p l e R s m args below meth c H locs cells slots Q (F0 m pc ls (v :: .null :: rest)) := by
  obtain ⟨hS, hfc, kC, hkC, -⟩ := hK.1 ci _ hc
  obtain ⟨cf, kf, fi, f, hi, -⟩ := hS k hk
  have hlay := hts _ (hin _ (u_in_lay hk))
  unfold u_lay at hlay
  rw [if_neg (by rw [hfin]; decide)] at hlay
  obtain ⟨c9, k9, cf9, kf9, fi9, f9, -, -, hi9, hst9, hnf9, -⟩ := Cond.lays_spec hlay
  cases hi.symm.trans hi9
  intro U hU X
  obtain ⟨vm', X1, st1⟩ := X.putfieldNull hexec hown hlink (hsame _ hi) hst9 hnf9 (g := F0 m pc ls (v :: .null :: rest)) rfl (v := v) (rest := rest) rfl (by rw [hb]; exact hdg)
  obtain ⟨t, st, q⟩ := kk (U.setVm vm') hU X1
  exact ⟨t, st1 t st, q⟩
theorem vx_putfNN {D cl tys} {own ref C host : String} {T : u_T} {N ci index : Nat} {Ts : List Cond} (hexec : p.tables.exec = Jvm.exec) (hb : c.code = cc) (hts : ∀ w ∈ Ts, w.before args s = true) (hin : ∀ w ∈ u_ws C T N, w ∈ Ts) (hown : s.vm.findClass own = some m.cls) (hK : va_K D cl tys s) (hc : cl[ci]? = some (C, T, N)) (k : Nat) (hk : k < N) (hlink : (Cond.fieldLinkNest own index ref (T k).2.1 (T k).2.2.1 host).before args s = true) (hsame : ∀ x, s.fieldFound? (T k).1 (T k).2.1 (T k).2.2.1 = some x → s.fieldFound? ref (T k).2.1 (T k).2.2.1 = some x) (hfin : (T k).2.2.2 = false) {v : Value} (hdg : decode cc pc = .ok (.putfield index, 3)) (kk : vx_NoteN p l e R s m args below meth c H locs cells slots Q (F0 m pc ls rest)) : W p l e R s m args below meth c H locs cells slots Q (F0 m pc ls (v :: .null :: rest)) := by
  obtain ⟨hS, hfc, kC, hkC, -⟩ := hK.1 ci _ hc
  obtain ⟨cf, kf, fi, f, hi, -⟩ := hS k hk
  have hlay := hts _ (hin _ (u_in_lay hk))
  unfold u_lay at hlay
  rw [if_neg (by rw [hfin]; decide)] at hlay
  obtain ⟨c9, k9, cf9, kf9, fi9, f9, -, -, hi9, hst9, hnf9, -⟩ := Cond.lays_spec hlay
  cases hi.symm.trans hi9
  intro U hU X
  obtain ⟨vm', X1, st1⟩ := X.putfieldNullNest hexec hown hlink (hsame _ hi) hst9 hnf9 (g := F0 m pc ls (v :: .null :: rest)) rfl (v := v) (rest := rest) rfl (by rw [hb]; exact hdg)
  obtain ⟨t, st, q⟩ := kk (U.setVm vm') hU X1
  exact ⟨t, st1 t st, q⟩
theorem vx_athrowN (hexec : p.tables.exec = Jvm.exec) (hb : c.code = cc) (hdg : decode cc pc = .ok (.athrow, 1)) (k : vx_NoteN p l e R s m args below meth c H locs cells slots Q (F0 m pc ls rest)) : W p l e R s m args below meth c H locs cells slots Q (F0 m pc ls (.null :: rest)) := by
  intro T hT X
  obtain ⟨t, st, q⟩ := k T hT X
  exact ⟨t, X.athrowNull hexec (g := F0 m pc ls (.null :: rest)) rfl (rest := rest) rfl (by rw [hb]; exact hdg) t st, q⟩
end VXM2
/-! ===== END ===== -/
end
section
/-- an array of arrays: its class is among the tables (as va_AO, of arrays over arrays) -/
def va_AOA (t : FieldType) (U : State) : Prop := (Cond.arrayOver (.array t)).before #[] U = true
theorem va_AOA.use {t : FieldType} {A : Array Value} {U : State} (h : va_AOA t U) : (Cond.arrayOver (.array t)).before A U = true := h
/-! ===== BEGIN new T[n][m]: the outer array a place, the inner ones among the pooled ===== -/
/-- f, but v at every address of l -/
def vr_up {α : Type} (f : Nat → α) (l : List Nat) (v : α) : Nat → α := fun a => if a ∈ l then v else f a
theorem vr_up_in {α : Type} {f : Nat → α} {l : List Nat} {v : α} {a : Nat} (h : a ∈ l) : vr_up f l v a = v := if_pos h
theorem vr_up_ne {α : Type} {f : Nat → α} {l : List Nat} {v : α} {a : Nat} (h : a ∉ l) : vr_up f l v a = f a := if_neg h
theorem vr_rows {L l : List Nat} {f : Nat → va_E} {e : va_E} (h : ∀ a, a ∈ l → a ∉ L) : va_pl L f ++ l.map (fun a => (a, e)) = va_pl (L ++ l) (vr_up f l e) := by
  unfold va_pl
  rw [List.map_append]
  congr 1
  · apply List.map_congr_left
    intro a ha
    rw [vr_up_ne (fun q => h a q ha)]
  · apply List.map_congr_left
    intro a ha
    rw [vr_up_in ha]
theorem vr_lay {X rows : va_W} {x : Nat × va_E} {pl : va_W} {D : va_G} {cl : List vw_C} {H : Heap} (hP : va_P D cl (((X ++ pl) ++ [x]) ++ rows) H) : va_P D cl ((X ++ [x]) ++ (pl ++ rows)) H := by
  rw [List.append_assoc (X ++ pl)] at hP
  have h := va_P.swap hP
  rw [← List.append_assoc X] at h
  have h2 := va_P.swap h
  rw [List.append_assoc (X ++ [x])] at h2
  exact h2
theorem vr_layD {X rows : va_W} {x : Nat × va_E} {pl : va_W} {A : Nat → Prop} (hD : va_D A (((X ++ pl) ++ [x]) ++ rows)) : va_D A ((X ++ [x]) ++ (pl ++ rows)) := by
  rw [List.append_assoc (X ++ pl)] at hD
  have h := va_D.swap hD
  rw [← List.append_assoc X] at h
  have h2 := va_D.swap h
  rw [List.append_assoc (X ++ [x])] at h2
  exact h2
theorem vr_outer (c : ClassId) (N h0 : Nat) : ∀ i : Nat, Jvm.Free.Multi.outerC c N h0 i = arrV c N (fun j => va_rf (if j < i then some (h0 + 1 + j) else none))
  | 0 => by
    show ({ cls := c, slots := Array.replicate N .null, vm := .none } : Cell) = _
    rw [arrV_new]
    refine congrArg (arrV c N) (funext fun j => ?_)
    simp [va_rf]
  | i + 1 => by
    show (Jvm.Free.Multi.outerC c N h0 i).setSlot i (.ref (h0 + 1 + i)) = _
    rw [vr_outer c N h0 i, arrV_store]
    refine congrArg (arrV c N) (funext fun j => ?_)
    by_cases e : j = i
    · subst e
      simp [updV, va_rf]
    · by_cases h : j < i
      · simp [updV, e, h, Nat.lt_succ_of_lt h]
      · simp [updV, e, h, show ¬ j < i + 1 by omega]
section VGM
variable {p : Program} {l : Launch} {e : Env} {R : Room} {s : State} {m : MethodId} {args : Array Value} {below : List Frame} {meth : Method} {c : Code} {H : Heap} {locs : List Loc} {cells slots : Nat} {Q : State → Prop}
variable {cc : ByteArray} {pc : Nat} {ls : Array Slot} {rest : List Value} {D : va_G} {cl : List vw_C} {A : Nat → Prop} {a : Nat} {tys : List (ClassId × FieldType)} {ws : va_W} {H0 : Heap}
theorem va_mna {X : va_W} {L : List Nat} {f : Nat → va_E} {cc : ByteArray} (hexec : p.tables.exec = Jvm.exec) (hb : c.code = cc) {own : String} {index : Nat} {ty : FieldType} {cy : ClassId} (hown : s.vm.findClass own = some m.cls) (hclink : (Cond.classLink own index ("[" ++ (FieldType.array ty).toString)).before args s = true) (hover : va_AOA ty s) (harr : (Cond.arrayClass ty).before args s = true) (hcy : s.vm.findClass (FieldType.array ty).toString = some cy)
    (hK : va_K D cl tys s) (hP : va_P D cl (X ++ va_pl L f) H) (hD : va_D A (X ++ va_pl L f)) (hS : va_S A H0 H locs) (hA : ∀ q, H0.size ≤ q → A q) {n k : Int32} {N' K' : Nat} {z : vp_A} (hn : ¬ n < 0) (hk : ¬ k < 0) (hN : n.toNatClampNeg = N') (hM : k.toNatClampNeg = K')
    (hb1 : N' * 4 ≤ 536870912) (hb2 : K' * componentBytes ty ≤ 536870912) (hb3 : K' ≤ 536870912) (hdf : fits ty (defaultValue ty) = true) (hdd : (defaultValue ty).isDefault = true) (hcells : cells + (1 + N') ≤ R.cells) (hslots : slots + (N' + N' * K') ≤ R.slots) (hz : ∀ c : ClassId, Jvm.Free.Multi.innerC c K' (defaultValue ty) = vp_cell c z) (hdg : decode cc pc = .ok (.multianewarray index 2, 4))
    (kk : ∀ (q : Nat) (r : Nat → Nat) (cA : ClassId) (H1 : Heap), (∀ i j : Nat, i < N' → j < N' → r i = r j → i = j) → (∀ i : Nat, i < N' → r i ∉ L) → va_K D cl (tys ++ [(cA, .array ty)]) s →
      va_P D cl ((X ++ [(q, .inl (cA, N', .inr (.inr (.inr (.inr (fun i => if i < N' then some (r i) else none))))))]) ++ va_pl (L ++ (List.range N').map r) (vr_up f ((List.range N').map r) (.inl (cy, z)))) H1 → va_D A ((X ++ [(q, .inl (cA, N', .inr (.inr (.inr (.inr (fun i => if i < N' then some (r i) else none))))))]) ++ va_pl (L ++ (List.range N').map r) (vr_up f ((List.range N').map r) (.inl (cy, z)))) → va_S A H0 H1 locs →
      W p l e R s m args below meth c H1 locs (cells + 1 + N') (slots + N' + N' * K') Q (F0 m (pc + 4) ls (.ref q :: rest))) : W p l e R s m args below meth c H locs cells slots Q (F0 m pc ls (.int k :: .int n :: rest)) := by
  subst hN
  subst hM
  intro T hT Xs
  obtain ⟨vm₁, cA, comp, -, fA, fC, hO, -, X', step⟩ := Xs.multianewarray2F hexec hown hclink (va_AOA.use hover) harr (g := F0 m pc ls (.int k :: .int n :: rest)) rfl (by rw [hb]; exact hdg) rfl hn hk hb1 hb2 hb3 hdf hdd hcells hslots
  have ec : some cy = some comp := hcy.symm.trans fC
  cases ec
  generalize hF : Jvm.Free.Multi.fill (T.setVm vm₁) cA cy n.toNatClampNeg k.toNatClampNeg (defaultValue ty) n.toNatClampNeg = F at X' step
  have hTh : (T.setVm vm₁).heap = H := hT
  obtain ⟨f1, f2, -, -⟩ := Jvm.Free.Multi.fill_facts (T.setVm vm₁) cA cy n.toNatClampNeg k.toNatClampNeg (defaultValue ty) n.toNatClampNeg
  rw [hF, hTh] at f1 f2
  have hold : ∀ x : Nat, x < H.size → F.heap[x]? = H[x]? := fun x hx => by
    have := Jvm.Free.Multi.fill_old (T.setVm vm₁) cA cy n.toNatClampNeg k.toNatClampNeg (defaultValue ty) (a := x) (by rw [hTh]; exact hx) n.toNatClampNeg
    rw [hF, hTh] at this
    exact this
  have hrow : ∀ j : Nat, j < n.toNatClampNeg → F.heap[H.size + 1 + j]? = some (vp_cell cy z) := fun j hj => by
    have := Jvm.Free.Multi.fill_inner (T.setVm vm₁) cA cy n.toNatClampNeg k.toNatClampNeg (defaultValue ty) n.toNatClampNeg j hj
    rw [hF, hTh, hz] at this
    exact this
  have hout : Jvm.Free.Multi.outerC cA n.toNatClampNeg H.size n.toNatClampNeg = vp_cell cA (n.toNatClampNeg, .inr (.inr (.inr (.inr (fun i => if i < n.toNatClampNeg then some (H.size + 1 + i) else none))))) := by
    rw [vp_cell_q]
    exact vr_outer cA n.toNatClampNeg H.size n.toNatClampNeg
  rw [hout] at f2
  have hlt : ∀ a, a ∈ L → a < H.size := fun a ha => by
    obtain ⟨k9, hk9⟩ := va_pl_get (X := X) (f := f) ha
    exact (hP k9 _ hk9).lt
  have hnl : ∀ i : Nat, i < n.toNatClampNeg → H.size + 1 + i ∉ L := fun i _ h => by
    have := hlt _ h
    omega
  have hnm : ∀ a, a ∈ (List.range n.toNatClampNeg).map (fun i => H.size + 1 + i) → a ∉ L := fun a ha h => by
    obtain ⟨i, -, rfl⟩ := List.mem_map.mp ha
    have := hlt _ h
    omega
  have hP0 : va_P D cl (X ++ va_pl L f) F.heap := hP.kept (fun k9 x hx => hold x.1 ((hP k9 x hx).lt))
  have hP1 : va_P D cl ((X ++ va_pl L f) ++ [(H.size, .inl (cA, n.toNatClampNeg, .inr (.inr (.inr (.inr (fun i => if i < n.toNatClampNeg then some (H.size + 1 + i) else none))))))]) F.heap := hP0.app (fun k9 x hx => by
    have h0 : k9 < 1 := (List.getElem?_eq_some_iff.mp hx).1
    rw [show k9 = 0 by omega] at hx
    cases hx
    exact f2)
  have hP2 : va_P D cl (((X ++ va_pl L f) ++ [(H.size, .inl (cA, n.toNatClampNeg, .inr (.inr (.inr (.inr (fun i => if i < n.toNatClampNeg then some (H.size + 1 + i) else none))))))]) ++ ((List.range n.toNatClampNeg).map (fun i => H.size + 1 + i)).map (fun a => (a, .inl (cy, z)))) F.heap := hP1.app (fun k9 x hx => by
    obtain ⟨a, ha, rfl⟩ := List.mem_map.mp (List.mem_of_getElem? hx)
    obtain ⟨i, hi, rfl⟩ := List.mem_map.mp ha
    exact hrow i (List.mem_range.mp hi))
  have hD2 : va_D A (((X ++ va_pl L f) ++ [(H.size, .inl (cA, n.toNatClampNeg, .inr (.inr (.inr (.inr (fun i => if i < n.toNatClampNeg then some (H.size + 1 + i) else none))))))]) ++ ((List.range n.toNatClampNeg).map (fun i => H.size + 1 + i)).map (fun a => (a, .inl (cy, z)))) := by
    have hD1 := hD.push (e := .inl (cA, n.toNatClampNeg, .inr (.inr (.inr (.inr (fun i => if i < n.toNatClampNeg then some (H.size + 1 + i) else none)))))) hP rfl (hA _ hS.1)
    generalize hW1 : (X ++ va_pl L f) ++ [(H.size, .inl (cA, n.toNatClampNeg, .inr (.inr (.inr (.inr (fun i => if i < n.toNatClampNeg then some (H.size + 1 + i) else none))))))] = W1 at hD1 hP1 ⊢
    have hle : ∀ (k9 : Nat) (x : Nat × va_E), W1[k9]? = some x → x.1 ≤ H.size := fun k9 x hx => by
      rw [← hW1] at hx
      by_cases hl : k9 < (X ++ va_pl L f).length
      · rw [List.getElem?_append_left hl] at hx
        exact Nat.le_of_lt ((hP k9 x hx).lt)
      · rw [List.getElem?_append_right (by omega)] at hx
        have h0 : k9 - (X ++ va_pl L f).length < 1 := (List.getElem?_eq_some_iff.mp hx).1
        rw [show k9 - (X ++ va_pl L f).length = 0 by omega] at hx
        cases hx
        exact Nat.le_refl _
    have hr : ∀ (k9 : Nat) (x : Nat × va_E), (((List.range n.toNatClampNeg).map (fun i => H.size + 1 + i)).map (fun a => ((a, .inl (cy, z)) : Nat × va_E)))[k9]? = some x → x.1 = H.size + 1 + k9 := fun k9 x hx => by
      rw [List.getElem?_map, List.getElem?_map] at hx
      by_cases h9 : k9 < n.toNatClampNeg
      · rw [List.getElem?_range h9] at hx
        cases hx
        rfl
      · have hn0 : (List.range n.toNatClampNeg)[k9]? = none := List.getElem?_eq_none (by rw [List.length_range]; omega)
        rw [hn0] at hx
        cases hx
    refine ⟨fun i j x y hi hj hxy => ?_, fun k9 x hx => ?_⟩
    · by_cases h1 : i < W1.length <;> by_cases h2 : j < W1.length
      · rw [List.getElem?_append_left h1] at hi
        rw [List.getElem?_append_left h2] at hj
        exact hD1.1 i j x y hi hj hxy
      · rw [List.getElem?_append_left h1] at hi
        rw [List.getElem?_append_right (by omega)] at hj
        have := hle _ _ hi
        have := hr _ _ hj
        omega
      · rw [List.getElem?_append_right (by omega)] at hi
        rw [List.getElem?_append_left h2] at hj
        have := hle _ _ hj
        have := hr _ _ hi
        omega
      · rw [List.getElem?_append_right (by omega)] at hi hj
        have := hr _ _ hi
        have := hr _ _ hj
        omega
    · by_cases h1 : k9 < W1.length
      · rw [List.getElem?_append_left h1] at hx
        exact hD1.2 k9 x hx
      · rw [List.getElem?_append_right (by omega)] at hx
        have := hr _ _ hx
        exact hA _ (by have := hS.1; omega)
  have hAr : ArrOfT s cA (.array ty) := fun N9 z9 => by
    obtain ⟨-, k9, hk9, cm9, hkk9⟩ := (hO 0 0 0).1
    exact ⟨(fun q hq => by cases hq), k9, hk9, cm9, hkk9⟩
  have hK2 : va_K D cl (tys ++ [(cA, .array ty)]) s := ⟨hK.1, fun k9 x hx => by
    by_cases hl : k9 < tys.length
    · rw [List.getElem?_append_left hl] at hx
      exact hK.2 k9 x hx
    · rw [List.getElem?_append_right (by omega)] at hx
      have h0 : k9 - tys.length < 1 := (List.getElem?_eq_some_iff.mp hx).1
      rw [show k9 - tys.length = 0 by omega] at hx
      cases hx
      exact ⟨hAr, fA⟩⟩
  obtain ⟨t, a1, b1⟩ := kk H.size (fun i => H.size + 1 + i) cA F.heap (fun i j _ _ h => by have h9 : H.size + 1 + i = H.size + 1 + j := h; omega) hnl hK2 (by rw [← vr_rows hnm]; exact vr_lay hP2) (by rw [← vr_rows hnm]; exact vr_layD hD2) ⟨by rw [f1]; have := hS.1; omega, fun x h1 h2 => (hold x (Nat.lt_of_lt_of_le h1 hS.1)).trans (hS.2.1 x h1 h2), hS.2.2⟩ F rfl X'
  refine ⟨t, step t ?_, b1⟩
  have e : T.heap.size = H.size := by rw [hT]
  rw [e]
  exact a1
end VGM
/-! ===== END ===== -/
end
section
def RX0 : String := "Weightlattice$Checker"
def TX0 : u_T := fun k => match k with
  | 0 => ("Weightlattice$Checker", "roots", "LWeightlattice$Roots;", true)
  | 1 => ("Weightlattice$Checker", "one", "LWeightlattice$Sum;", true)
  | 2 => ("Weightlattice$Checker", "other", "LWeightlattice$Sum;", true)
  | 3 => ("Weightlattice$Checker", "element", "[J", true)
  | _ => ("Weightlattice$Checker", "row", "[J", true)
def tyX0 : Nat → FieldType := fun k => match k with
  | 0 => .object "Weightlattice$Roots"
  | 1 => .object "Weightlattice$Sum"
  | 2 => .object "Weightlattice$Sum"
  | 3 => .array .long
  | _ => .array .long
abbrev wsX00 : List Cond := u_ws RX0 TX0 5
theorem nmX0 : ∀ a, a < 5 → ∀ b, b < 5 → a ≠ b → (TX0 a).2.1 ≠ (TX0 b).2.1 := by decide +kernel
theorem tyX0_ok : ∀ k, k < 5 → parseFieldDescriptor (TX0 k).2.2.1 = some (tyX0 k) := by decide +kernel
abbrev cX0_init : ByteArray := prog_2_method_1_code
def yX0_init : MethodName := ⟨RX0, "<init>", "(LWeightlattice$Roots;)V"⟩
def RX2 : String := "Weightlattice$Polynomials"
def TX2 : u_T := fun k => match k with
  | 0 => ("Weightlattice$Polynomials", "roots", "LWeightlattice$Roots;", true)
  | 1 => ("Weightlattice$Polynomials", "keys", "[J", true)
  | 2 => ("Weightlattice$Polynomials", "lengths", "[I", true)
  | 3 => ("Weightlattice$Polynomials", "left", "[[I", true)
  | 4 => ("Weightlattice$Polynomials", "rows", "[[J", true)
  | 5 => ("Weightlattice$Polynomials", "element", "[J", true)
  | _ => ("Weightlattice$Polynomials", "count", "I", false)
def tyX2 : Nat → FieldType := fun k => match k with
  | 0 => .object "Weightlattice$Roots"
  | 1 => .array .long
  | 2 => .array .int
  | 3 => .array (.array .int)
  | 4 => .array (.array .long)
  | 5 => .array .long
  | _ => .int
abbrev wsX20 : List Cond := u_ws RX2 TX2 7
theorem nmX2 : ∀ a, a < 7 → ∀ b, b < 7 → a ≠ b → (TX2 a).2.1 ≠ (TX2 b).2.1 := by decide +kernel
theorem tyX2_ok : ∀ k, k < 7 → parseFieldDescriptor (TX2 k).2.2.1 = some (tyX2 k) := by decide +kernel
abbrev cX2_init : ByteArray := prog_4_method_1_code
def yX2_init : MethodName := ⟨RX2, "<init>", "(LWeightlattice$Roots;)V"⟩
abbrev cX2_forget : ByteArray := prog_4_method_2_code
def yX2_forget : MethodName := ⟨RX2, "forget", "()V"⟩
def RX3 : String := "Weightlattice$Register"
def TX3 : u_T := fun k => match k with
  | 0 => ("Weightlattice$Register", "roots", "LWeightlattice$Roots;", true)
  | 1 => ("Weightlattice$Register", "coordinates", "[[J", true)
  | _ => ("Weightlattice$Register", "total", "[J", true)
def tyX3 : Nat → FieldType := fun k => match k with
  | 0 => .object "Weightlattice$Roots"
  | 1 => .array (.array .long)
  | _ => .array .long
abbrev wsX30 : List Cond := u_ws RX3 TX3 3
theorem nmX3 : ∀ a, a < 3 → ∀ b, b < 3 → a ≠ b → (TX3 a).2.1 ≠ (TX3 b).2.1 := by decide +kernel
theorem tyX3_ok : ∀ k, k < 3 → parseFieldDescriptor (TX3 k).2.2.1 = some (tyX3 k) := by decide +kernel
abbrev cX3_init : ByteArray := prog_5_method_1_code
def yX3_init : MethodName := ⟨RX3, "<init>", "(LWeightlattice$Roots;)V"⟩
abbrev cX3_empty : ByteArray := prog_5_method_2_code
def yX3_empty : MethodName := ⟨RX3, "empty", "()V"⟩
abbrev cX3_write : ByteArray := prog_5_method_3_code
def yX3_write : MethodName := ⟨RX3, "write", "(II)V"⟩
def RX4 : String := "Weightlattice$Roots"
def TX4 : u_T := fun k => match k with
  | 0 => ("Weightlattice$Roots", "letter", "C", false)
  | 1 => ("Weightlattice$Roots", "rank", "I", false)
  | 2 => ("Weightlattice$Roots", "count", "I", false)
  | 3 => ("Weightlattice$Roots", "squareSum", "I", false)
  | 4 => ("Weightlattice$Roots", "groupSize", "J", false)
  | 5 => ("Weightlattice$Roots", "matrix", "[[I", true)
  | 6 => ("Weightlattice$Roots", "coefficients", "[[I", true)
  | 7 => ("Weightlattice$Roots", "weights", "[[I", true)
  | 8 => ("Weightlattice$Roots", "coroots", "[[I", true)
  | 9 => ("Weightlattice$Roots", "squares", "[I", true)
  | 10 => ("Weightlattice$Roots", "sums", "[I", true)
  | 11 => ("Weightlattice$Roots", "exponents", "[I", true)
  | 12 => ("Weightlattice$Roots", "rho", "[J", true)
  | _ => ("Weightlattice$Roots", "candidate", "[I", true)
def tyX4 : Nat → FieldType := fun k => match k with
  | 0 => .char
  | 1 => .int
  | 2 => .int
  | 3 => .int
  | 4 => .long
  | 5 => .array (.array .int)
  | 6 => .array (.array .int)
  | 7 => .array (.array .int)
  | 8 => .array (.array .int)
  | 9 => .array .int
  | 10 => .array .int
  | 11 => .array .int
  | 12 => .array .long
  | _ => .array .int
abbrev wsX40 : List Cond := u_ws RX4 TX4 14
theorem nmX4 : ∀ a, a < 14 → ∀ b, b < 14 → a ≠ b → (TX4 a).2.1 ≠ (TX4 b).2.1 := by decide +kernel
theorem tyX4_ok : ∀ k, k < 14 → parseFieldDescriptor (TX4 k).2.2.1 = some (tyX4 k) := by decide +kernel
abbrev cX4_init : ByteArray := prog_6_method_1_code
def yX4_init : MethodName := ⟨RX4, "<init>", "()V"⟩
abbrev cX4_hasSystem : ByteArray := prog_6_method_2_code
def yX4_hasSystem : MethodName := ⟨RX4, "hasSystem", "(CI)Z"⟩
abbrev cX4_build : ByteArray := prog_6_method_3_code
def yX4_build : MethodName := ⟨RX4, "build", "(CI)V"⟩
abbrev cX4_fillMatrix : ByteArray := prog_6_method_4_code
def yX4_fillMatrix : MethodName := ⟨RX4, "fillMatrix", "()V"⟩
abbrev cX4_plainEntry : ByteArray := prog_6_method_5_code
def yX4_plainEntry : MethodName := ⟨RX4, "plainEntry", "(II)I"⟩
abbrev cX4_simpleSquare : ByteArray := prog_6_method_6_code
def yX4_simpleSquare : MethodName := ⟨RX4, "simpleSquare", "(I)I"⟩
abbrev cX4_findRoots : ByteArray := prog_6_method_7_code
def yX4_findRoots : MethodName := ⟨RX4, "findRoots", "()V"⟩
abbrev cX4_climb : ByteArray := prog_6_method_8_code
def yX4_climb : MethodName := ⟨RX4, "climb", "(II)V"⟩
abbrev cX4_weightOf : ByteArray := prog_6_method_9_code
def yX4_weightOf : MethodName := ⟨RX4, "weightOf", "(II)I"⟩
abbrev cX4_enterCandidate : ByteArray := prog_6_method_10_code
def yX4_enterCandidate : MethodName := ⟨RX4, "enterCandidate", "()V"⟩
abbrev cX4_sameAsCandidate : ByteArray := prog_6_method_11_code
def yX4_sameAsCandidate : MethodName := ⟨RX4, "sameAsCandidate", "([I)Z"⟩
abbrev cX4_sortRoots : ByteArray := prog_6_method_12_code
def yX4_sortRoots : MethodName := ⟨RX4, "sortRoots", "()V"⟩
abbrev cX4_comesBefore : ByteArray := prog_6_method_13_code
def yX4_comesBefore : MethodName := ⟨RX4, "comesBefore", "(II)Z"⟩
abbrev cX4_measureRoots : ByteArray := prog_6_method_14_code
def yX4_measureRoots : MethodName := ⟨RX4, "measureRoots", "()V"⟩
abbrev cX4_findExponents : ByteArray := prog_6_method_15_code
def yX4_findExponents : MethodName := ⟨RX4, "findExponents", "()V"⟩
abbrev cX4_pair : ByteArray := prog_6_method_21_code
def yX4_pair : MethodName := ⟨RX4, "pair", "([JI)J"⟩
abbrev cX4_orbitSize : ByteArray := prog_6_method_24_code
def yX4_orbitSize : MethodName := ⟨RX4, "orbitSize", "([J)J"⟩
def RX5 : String := "Weightlattice$Splitter"
def TX5 : u_T := fun k => match k with
  | 0 => ("Weightlattice$Splitter", "roots", "LWeightlattice$Roots;", true)
  | 1 => ("Weightlattice$Splitter", "parts", "LWeightlattice$Sum;", true)
  | _ => ("Weightlattice$Splitter", "row", "[J", true)
def tyX5 : Nat → FieldType := fun k => match k with
  | 0 => .object "Weightlattice$Roots"
  | 1 => .object "Weightlattice$Sum"
  | _ => .array .long
abbrev wsX50 : List Cond := u_ws RX5 TX5 3
theorem nmX5 : ∀ a, a < 3 → ∀ b, b < 3 → a ≠ b → (TX5 a).2.1 ≠ (TX5 b).2.1 := by decide +kernel
theorem tyX5_ok : ∀ k, k < 3 → parseFieldDescriptor (TX5 k).2.2.1 = some (tyX5 k) := by decide +kernel
abbrev cX5_init : ByteArray := prog_7_method_1_code
def yX5_init : MethodName := ⟨RX5, "<init>", "(LWeightlattice$Roots;)V"⟩
def RX6 : String := "Weightlattice$Sum"
def TX6 : u_T := fun k => match k with
  | 0 => ("Weightlattice$Sum", "keys", "[J", true)
  | 1 => ("Weightlattice$Sum", "counts", "[I", true)
  | _ => ("Weightlattice$Sum", "size", "I", false)
def tyX6 : Nat → FieldType := fun k => match k with
  | 0 => .array .long
  | 1 => .array .int
  | _ => .int
abbrev wsX60 : List Cond := u_ws RX6 TX6 3
theorem nmX6 : ∀ a, a < 3 → ∀ b, b < 3 → a ≠ b → (TX6 a).2.1 ≠ (TX6 b).2.1 := by decide +kernel
theorem tyX6_ok : ∀ k, k < 3 → parseFieldDescriptor (TX6 k).2.2.1 = some (tyX6 k) := by decide +kernel
abbrev cX6_init : ByteArray := prog_8_method_1_code
def yX6_init : MethodName := ⟨RX6, "<init>", "()V"⟩
abbrev cX6_empty : ByteArray := prog_8_method_2_code
def yX6_empty : MethodName := ⟨RX6, "empty", "()V"⟩
def RX7 : String := "Weightlattice$Weights"
def TX7 : u_T := fun k => match k with
  | 0 => ("Weightlattice$Weights", "roots", "LWeightlattice$Roots;", true)
  | 1 => ("Weightlattice$Weights", "keys", "[J", true)
  | 2 => ("Weightlattice$Weights", "counts", "[I", true)
  | 3 => ("Weightlattice$Weights", "heights", "[J", true)
  | 4 => ("Weightlattice$Weights", "row", "[J", true)
  | 5 => ("Weightlattice$Weights", "other", "[J", true)
  | 6 => ("Weightlattice$Weights", "lifted", "[J", true)
  | 7 => ("Weightlattice$Weights", "highest", "J", false)
  | 8 => ("Weightlattice$Weights", "highestNorm", "J", false)
  | 9 => ("Weightlattice$Weights", "dominants", "I", false)
  | _ => ("Weightlattice$Weights", "size", "I", false)
def tyX7 : Nat → FieldType := fun k => match k with
  | 0 => .object "Weightlattice$Roots"
  | 1 => .array .long
  | 2 => .array .int
  | 3 => .array .long
  | 4 => .array .long
  | 5 => .array .long
  | 6 => .array .long
  | 7 => .long
  | 8 => .long
  | 9 => .int
  | _ => .int
abbrev wsX70 : List Cond := u_ws RX7 TX7 11
theorem nmX7 : ∀ a, a < 11 → ∀ b, b < 11 → a ≠ b → (TX7 a).2.1 ≠ (TX7 b).2.1 := by decide +kernel
theorem tyX7_ok : ∀ k, k < 11 → parseFieldDescriptor (TX7 k).2.2.1 = some (tyX7 k) := by decide +kernel
abbrev cX7_init : ByteArray := prog_9_method_1_code
def yX7_init : MethodName := ⟨RX7, "<init>", "(LWeightlattice$Roots;)V"⟩
abbrev cX7_forget : ByteArray := prog_9_method_2_code
def yX7_forget : MethodName := ⟨RX7, "forget", "()V"⟩
def RX8 : String := "Weightlattice$Word"
def TX8 : u_T := fun k => match k with
  | 0 => ("Weightlattice$Word", "roots", "LWeightlattice$Roots;", true)
  | 1 => ("Weightlattice$Word", "mirrors", "[I", true)
  | _ => ("Weightlattice$Word", "size", "I", false)
def tyX8 : Nat → FieldType := fun k => match k with
  | 0 => .object "Weightlattice$Roots"
  | 1 => .array .int
  | _ => .int
abbrev wsX80 : List Cond := u_ws RX8 TX8 3
theorem nmX8 : ∀ a, a < 3 → ∀ b, b < 3 → a ≠ b → (TX8 a).2.1 ≠ (TX8 b).2.1 := by decide +kernel
theorem tyX8_ok : ∀ k, k < 3 → parseFieldDescriptor (TX8 k).2.2.1 = some (tyX8 k) := by decide +kernel
abbrev cX8_init : ByteArray := prog_10_method_1_code
def yX8_init : MethodName := ⟨RX8, "<init>", "(LWeightlattice$Roots;)V"⟩
def RX9 : String := "Weightlattice"
def TX9 : u_T := fun k => match k with
  | 0 => ("Weightlattice", "roots", "LWeightlattice$Roots;", true)
  | 1 => ("Weightlattice", "word", "LWeightlattice$Word;", true)
  | 2 => ("Weightlattice", "polynomials", "LWeightlattice$Polynomials;", true)
  | 3 => ("Weightlattice", "module", "LWeightlattice$Weights;", true)
  | 4 => ("Weightlattice", "splitter", "LWeightlattice$Splitter;", true)
  | 5 => ("Weightlattice", "checker", "LWeightlattice$Checker;", true)
  | 6 => ("Weightlattice", "registers", "[LWeightlattice$Register;", true)
  | 7 => ("Weightlattice", "spare", "LWeightlattice$Register;", true)
  | 8 => ("Weightlattice", "kept", "[J", true)
  | 9 => ("Weightlattice", "here", "[J", true)
  | _ => ("Weightlattice", "there", "[J", true)
def tyX9 : Nat → FieldType := fun k => match k with
  | 0 => .object "Weightlattice$Roots"
  | 1 => .object "Weightlattice$Word"
  | 2 => .object "Weightlattice$Polynomials"
  | 3 => .object "Weightlattice$Weights"
  | 4 => .object "Weightlattice$Splitter"
  | 5 => .object "Weightlattice$Checker"
  | 6 => .array (.object "Weightlattice$Register")
  | 7 => .object "Weightlattice$Register"
  | 8 => .array .long
  | 9 => .array .long
  | _ => .array .long
abbrev wsX90 : List Cond := u_ws RX9 TX9 11
theorem nmX9 : ∀ a, a < 11 → ∀ b, b < 11 → a ≠ b → (TX9 a).2.1 ≠ (TX9 b).2.1 := by decide +kernel
theorem tyX9_ok : ∀ k, k < 11 → parseFieldDescriptor (TX9 k).2.2.1 = some (tyX9 k) := by decide +kernel
abbrev cX9_init : ByteArray := prog_1_method_1_code
def yX9_init : MethodName := ⟨RX9, "<init>", "()V"⟩
abbrev cX9_choose : ByteArray := prog_1_method_2_code
def yX9_choose : MethodName := ⟨RX9, "choose", "(CI)I"⟩
abbrev cX9_matrix : ByteArray := prog_1_method_3_code
def yX9_matrix : MethodName := ⟨RX9, "matrix", "(II)I"⟩
abbrev cX9_coefficient : ByteArray := prog_1_method_4_code
def yX9_coefficient : MethodName := ⟨RX9, "coefficient", "(II)I"⟩
abbrev cX9_square : ByteArray := prog_1_method_5_code
def yX9_square : MethodName := ⟨RX9, "square", "(I)I"⟩
abbrev cX9_exponent : ByteArray := prog_1_method_6_code
def yX9_exponent : MethodName := ⟨RX9, "exponent", "(I)I"⟩
abbrev cX9_order : ByteArray := prog_1_method_7_code
def yX9_order : MethodName := ⟨RX9, "order", "()J"⟩
abbrev cX9_put : ByteArray := prog_1_method_8_code
def yX9_put : MethodName := ⟨RX9, "put", "(I)I"⟩
abbrev cX9_clear : ByteArray := prog_1_method_9_code
def yX9_clear : MethodName := ⟨RX9, "clear", "()I"⟩
abbrev cX9_length : ByteArray := prog_1_method_10_code
def yX9_length : MethodName := ⟨RX9, "length", "()I"⟩
abbrev cX9_reducedAt : ByteArray := prog_1_method_11_code
def yX9_reducedAt : MethodName := ⟨RX9, "reducedAt", "(I)I"⟩
abbrev cX9_goesDown : ByteArray := prog_1_method_12_code
def yX9_goesDown : MethodName := ⟨RX9, "goesDown", "(IZ)Z"⟩
abbrev cX9_keep : ByteArray := prog_1_method_13_code
def yX9_keep : MethodName := ⟨RX9, "keep", "()I"⟩
abbrev cX9_isBelow : ByteArray := prog_1_method_14_code
def yX9_isBelow : MethodName := ⟨RX9, "isBelow", "()Z"⟩
abbrev cX9_polynomial : ByteArray := prog_1_method_15_code
def yX9_polynomial : MethodName := ⟨RX9, "polynomial", "(I)I"⟩
abbrev cX9_set : ByteArray := prog_1_method_16_code
def yX9_set : MethodName := ⟨RX9, "set", "(III)I"⟩
abbrev cX9_get : ByteArray := prog_1_method_17_code
def yX9_get : MethodName := ⟨RX9, "get", "(II)I"⟩
abbrev cX9_act : ByteArray := prog_1_method_18_code
def yX9_act : MethodName := ⟨RX9, "act", "(I)I"⟩
abbrev cX9_raise : ByteArray := prog_1_method_19_code
def yX9_raise : MethodName := ⟨RX9, "raise", "(I)I"⟩
abbrev cX9_orbit : ByteArray := prog_1_method_20_code
def yX9_orbit : MethodName := ⟨RX9, "orbit", "(I)I"⟩
abbrev cX9_pairing : ByteArray := prog_1_method_21_code
def yX9_pairing : MethodName := ⟨RX9, "pairing", "(II)I"⟩
abbrev cX9_isLower : ByteArray := prog_1_method_22_code
def yX9_isLower : MethodName := ⟨RX9, "isLower", "(II)Z"⟩
abbrev cX9_dimension : ByteArray := prog_1_method_23_code
def yX9_dimension : MethodName := ⟨RX9, "dimension", "(I)J"⟩
abbrev cX9_multiplicity : ByteArray := prog_1_method_24_code
def yX9_multiplicity : MethodName := ⟨RX9, "multiplicity", "(II)I"⟩
abbrev cX9_dominant : ByteArray := prog_1_method_25_code
def yX9_dominant : MethodName := ⟨RX9, "dominant", "(I)I"⟩
abbrev cX9_multiply : ByteArray := prog_1_method_26_code
def yX9_multiply : MethodName := ⟨RX9, "multiply", "(II)I"⟩
abbrev cX9_fuse : ByteArray := prog_1_method_27_code
def yX9_fuse : MethodName := ⟨RX9, "fuse", "(III)I"⟩
abbrev cX9_branch : ByteArray := prog_1_method_28_code
def yX9_branch : MethodName := ⟨RX9, "branch", "(II)I"⟩
abbrev cX9_partAt : ByteArray := prog_1_method_29_code
def yX9_partAt : MethodName := ⟨RX9, "partAt", "(II)I"⟩
abbrev cX9_times : ByteArray := prog_1_method_30_code
def yX9_times : MethodName := ⟨RX9, "times", "(I)I"⟩
abbrev cX9_meanLength : ByteArray := prog_1_method_31_code
def yX9_meanLength : MethodName := ⟨RX9, "meanLength", "()F"⟩
abbrev cX9_ratio : ByteArray := prog_1_method_32_code
def yX9_ratio : MethodName := ⟨RX9, "ratio", "(II)D"⟩
abbrev cX9_type : ByteArray := prog_1_method_33_code
def yX9_type : MethodName := ⟨RX9, "type", "()C"⟩
abbrev cX9_isConsistent : ByteArray := prog_1_method_34_code
def yX9_isConsistent : MethodName := ⟨RX9, "isConsistent", "()Z"⟩
abbrev cX9_requireSystem : ByteArray := prog_1_method_35_code
def yX9_requireSystem : MethodName := ⟨RX9, "requireSystem", "()V"⟩
abbrev cX9_copy : ByteArray := prog_1_method_47_code
def yX9_copy : MethodName := ⟨RX9, "copy", "([J[J)V"⟩
def RX10 : String := "WeightlatticeModel$ByHeight"
def TX10 : u_T := fun k => match k with
  | _ => ("", "", "", false)
def tyX10 : Nat → FieldType := fun k => match k with
  | _ => .int
abbrev wsX100 : List Cond := u_ws RX10 TX10 0
theorem nmX10 : ∀ a, a < 0 → ∀ b, b < 0 → a ≠ b → (TX10 a).2.1 ≠ (TX10 b).2.1 := by decide +kernel
theorem tyX10_ok : ∀ k, k < 0 → parseFieldDescriptor (TX10 k).2.2.1 = some (tyX10 k) := by decide +kernel
abbrev cX10_init : ByteArray := prog_13_method_1_code
def yX10_init : MethodName := ⟨RX10, "<init>", "()V"⟩
abbrev cX10_compare : ByteArray := prog_13_method_2_code
def yX10_compare : MethodName := ⟨RX10, "compare", "([I[I)I"⟩
abbrev cX10_compare_ : ByteArray := prog_13_method_3_code
def yX10_compare_ : MethodName := ⟨RX10, "compare", "(Ljava/lang/Object;Ljava/lang/Object;)I"⟩
def RX13 : String := "WeightlatticeModel"
def TX13 : u_T := fun k => match k with
  | 0 => ("WeightlatticeModel", "thrown", "I", false)
  | 1 => ("WeightlatticeModel", "type", "C", false)
  | 2 => ("WeightlatticeModel", "n", "I", false)
  | 3 => ("WeightlatticeModel", "matrix", "[[I", false)
  | 4 => ("WeightlatticeModel", "registers", "[[I", false)
  | 5 => ("WeightlatticeModel", "squares", "[I", false)
  | 6 => ("WeightlatticeModel", "roots", "Ljava/util/List;", true)
  | 7 => ("WeightlatticeModel", "word", "Ljava/util/List;", true)
  | 8 => ("WeightlatticeModel", "kept", "[I", false)
  | 9 => ("WeightlatticeModel", "polynomials", "[[[I", false)
  | _ => ("WeightlatticeModel", "parts", "Ljava/util/List;", true)
def tyX13 : Nat → FieldType := fun k => match k with
  | 0 => .int
  | 1 => .char
  | 2 => .int
  | 3 => .array (.array .int)
  | 4 => .array (.array .int)
  | 5 => .array .int
  | 6 => .object "java/util/List"
  | 7 => .object "java/util/List"
  | 8 => .array .int
  | 9 => .array (.array (.array .int))
  | _ => .object "java/util/List"
abbrev wsX130 : List Cond := u_ws RX13 TX13 11
theorem nmX13 : ∀ a, a < 11 → ∀ b, b < 11 → a ≠ b → (TX13 a).2.1 ≠ (TX13 b).2.1 := by decide +kernel
theorem tyX13_ok : ∀ k, k < 11 → parseFieldDescriptor (TX13 k).2.2.1 = some (tyX13 k) := by decide +kernel
abbrev cX13_init : ByteArray := prog_12_method_1_code
def yX13_init : MethodName := ⟨RX13, "<init>", "()V"⟩
abbrev cX13_thrown : ByteArray := prog_12_method_2_code
def yX13_thrown : MethodName := ⟨RX13, "thrown", "()I"⟩
abbrev cX13_isWrong : ByteArray := prog_12_method_3_code
def yX13_isWrong : MethodName := ⟨RX13, "isWrong", "(I)Z"⟩
abbrev cX13_isBetween : ByteArray := prog_12_method_4_code
def yX13_isBetween : MethodName := ⟨RX13, "isBetween", "(III)Z"⟩
abbrev cX13_isNoSystem : ByteArray := prog_12_method_5_code
def yX13_isNoSystem : MethodName := ⟨RX13, "isNoSystem", "()Z"⟩
abbrev cX13_entry : ByteArray := prog_12_method_9_code
def yX13_entry : MethodName := ⟨RX13, "entry", "(CIII)I"⟩
abbrev cX13_squareOf : ByteArray := prog_12_method_10_code
def yX13_squareOf : MethodName := ⟨RX13, "squareOf", "(CII)I"⟩
abbrev cX13_choose : ByteArray := prog_12_method_11_code
def yX13_choose : MethodName := ⟨RX13, "choose", "(CI)I"⟩
abbrev cX13_sum : ByteArray := prog_12_method_12_code
def yX13_sum : MethodName := ⟨RX13, "sum", "([I)I"⟩
abbrev cX13_find : ByteArray := prog_12_method_13_code
def yX13_find : MethodName := ⟨RX13, "find", "(Ljava/util/List;[I)I"⟩
abbrev cX13_findRoots : ByteArray := prog_12_method_14_code
def yX13_findRoots : MethodName := ⟨RX13, "findRoots", "()V"⟩
abbrev cX13_compare : ByteArray := prog_12_method_15_code
def yX13_compare : MethodName := ⟨RX13, "compare", "([I[I)I"⟩
abbrev cX13_matrix : ByteArray := prog_12_method_16_code
def yX13_matrix : MethodName := ⟨RX13, "matrix", "(II)I"⟩
abbrev cX13_coefficient : ByteArray := prog_12_method_17_code
def yX13_coefficient : MethodName := ⟨RX13, "coefficient", "(II)I"⟩
abbrev cX13_square : ByteArray := prog_12_method_19_code
def yX13_square : MethodName := ⟨RX13, "square", "(I)I"⟩
abbrev cX13_exponent : ByteArray := prog_12_method_21_code
def yX13_exponent : MethodName := ⟨RX13, "exponent", "(I)I"⟩
abbrev cX13_order : ByteArray := prog_12_method_23_code
def yX13_order : MethodName := ⟨RX13, "order", "()J"⟩
abbrev cX13_rho : ByteArray := prog_12_method_24_code
def yX13_rho : MethodName := ⟨RX13, "rho", "()[I"⟩
abbrev cX13_put : ByteArray := prog_12_method_32_code
def yX13_put : MethodName := ⟨RX13, "put", "(I)I"⟩
abbrev cX13_clear : ByteArray := prog_12_method_33_code
def yX13_clear : MethodName := ⟨RX13, "clear", "()I"⟩
abbrev cX13_length : ByteArray := prog_12_method_34_code
def yX13_length : MethodName := ⟨RX13, "length", "()I"⟩
abbrev cX13_reducedAt : ByteArray := prog_12_method_35_code
def yX13_reducedAt : MethodName := ⟨RX13, "reducedAt", "(I)I"⟩
abbrev cX13_goesDown : ByteArray := prog_12_method_36_code
def yX13_goesDown : MethodName := ⟨RX13, "goesDown", "(IZ)Z"⟩
abbrev cX13_keep : ByteArray := prog_12_method_37_code
def yX13_keep : MethodName := ⟨RX13, "keep", "()I"⟩
abbrev cX13_isBelow_ : ByteArray := prog_12_method_39_code
def yX13_isBelow_ : MethodName := ⟨RX13, "isBelow", "()Z"⟩
abbrev cX13_polynomial : ByteArray := prog_12_method_44_code
def yX13_polynomial : MethodName := ⟨RX13, "polynomial", "(I)I"⟩
abbrev cX13_set : ByteArray := prog_12_method_46_code
def yX13_set : MethodName := ⟨RX13, "set", "(III)I"⟩
abbrev cX13_get : ByteArray := prog_12_method_47_code
def yX13_get : MethodName := ⟨RX13, "get", "(II)I"⟩
abbrev cX13_isNoRegister : ByteArray := prog_12_method_48_code
def yX13_isNoRegister : MethodName := ⟨RX13, "isNoRegister", "([I)Z"⟩
abbrev cX13_act : ByteArray := prog_12_method_49_code
def yX13_act : MethodName := ⟨RX13, "act", "(I)I"⟩
abbrev cX13_raise : ByteArray := prog_12_method_50_code
def yX13_raise : MethodName := ⟨RX13, "raise", "(I)I"⟩
abbrev cX13_orbit : ByteArray := prog_12_method_52_code
def yX13_orbit : MethodName := ⟨RX13, "orbit", "(I)I"⟩
abbrev cX13_pairing_ : ByteArray := prog_12_method_53_code
def yX13_pairing_ : MethodName := ⟨RX13, "pairing", "(II)I"⟩
abbrev cX13_isLower : ByteArray := prog_12_method_56_code
def yX13_isLower : MethodName := ⟨RX13, "isLower", "(II)Z"⟩
abbrev cX13_isNotDominant : ByteArray := prog_12_method_59_code
def yX13_isNotDominant : MethodName := ⟨RX13, "isNotDominant", "([I)Z"⟩
abbrev cX13_dimension : ByteArray := prog_12_method_60_code
def yX13_dimension : MethodName := ⟨RX13, "dimension", "(I)J"⟩
abbrev cX13_multiplicity_ : ByteArray := prog_12_method_65_code
def yX13_multiplicity_ : MethodName := ⟨RX13, "multiplicity", "(II)I"⟩
abbrev cX13_dominant : ByteArray := prog_12_method_66_code
def yX13_dominant : MethodName := ⟨RX13, "dominant", "(I)I"⟩
abbrev cX13_multiply : ByteArray := prog_12_method_68_code
def yX13_multiply : MethodName := ⟨RX13, "multiply", "(II)I"⟩
abbrev cX13_fuse : ByteArray := prog_12_method_70_code
def yX13_fuse : MethodName := ⟨RX13, "fuse", "(III)I"⟩
abbrev cX13_branch : ByteArray := prog_12_method_71_code
def yX13_branch : MethodName := ⟨RX13, "branch", "(II)I"⟩
abbrev cX13_partAt : ByteArray := prog_12_method_73_code
def yX13_partAt : MethodName := ⟨RX13, "partAt", "(II)I"⟩
abbrev cX13_times : ByteArray := prog_12_method_74_code
def yX13_times : MethodName := ⟨RX13, "times", "(I)I"⟩
abbrev cX13_meanLength : ByteArray := prog_12_method_75_code
def yX13_meanLength : MethodName := ⟨RX13, "meanLength", "()F"⟩
abbrev cX13_ratio : ByteArray := prog_12_method_76_code
def yX13_ratio : MethodName := ⟨RX13, "ratio", "(II)D"⟩
abbrev cX13_type : ByteArray := prog_12_method_77_code
def yX13_type : MethodName := ⟨RX13, "type", "()C"⟩
abbrev cX13_isConsistent : ByteArray := prog_12_method_78_code
def yX13_isConsistent : MethodName := ⟨RX13, "isConsistent", "()Z"⟩
abbrev cX13_sameRow : ByteArray := prog_12_method_79_code
def yX13_sameRow : MethodName := ⟨RX13, "sameRow", "([I[I)Z"⟩
def RJ9 : String := "java/lang/Math"
abbrev cJ9_abs_0f7a4 : ByteArray := prog_31_method_59_code
def yJ9_abs_0f7a4 : MethodName := ⟨RJ9, "abs", "(I)I"⟩
abbrev cJ9_max_7cf53 : ByteArray := prog_31_method_65_code
def yJ9_max_7cf53 : MethodName := ⟨RJ9, "max", "(II)I"⟩
abbrev cJ9_min_7cf53 : ByteArray := prog_31_method_69_code
def yJ9_min_7cf53 : MethodName := ⟨RJ9, "min", "(II)I"⟩
def RJxa1e45 : String := "java/util/AbstractCollection"
abbrev cJxa1e45_init_da8c8 : ByteArray := prog_43_method_1_code
def yJxa1e45_init_da8c8 : MethodName := ⟨RJxa1e45, "<init>", "()V"⟩
def RJxc12de : String := "java/util/AbstractList"
abbrev cJxc12de_init_da8c8 : ByteArray := prog_44_method_1_code
def yJxc12de_init_da8c8 : MethodName := ⟨RJxc12de, "<init>", "()V"⟩
def RJx4a65c : String := "java/util/ArrayList"
def TJx4a65c : u_T := fun k => match k with
  | 0 => ("java/util/AbstractList", "modCount", "I", false)
  | 1 => ("java/util/ArrayList", "elementData", "[Ljava/lang/Object;", false)
  | _ => ("java/util/ArrayList", "size", "I", false)
def tyJx4a65c : Nat → FieldType := fun k => match k with
  | 0 => .int
  | 1 => .array (.object "java/lang/Object")
  | _ => .int
abbrev wsJx4a65c0 : List Cond := u_ws RJx4a65c TJx4a65c 3
theorem nmJx4a65c : ∀ a, a < 3 → ∀ b, b < 3 → a ≠ b → (TJx4a65c a).2.1 ≠ (TJx4a65c b).2.1 := by decide +kernel
theorem tyJx4a65c_ok : ∀ k, k < 3 → parseFieldDescriptor (TJx4a65c k).2.2.1 = some (tyJx4a65c k) := by decide +kernel
abbrev cJx4a65c_init_da8c8 : ByteArray := prog_45_method_2_code
def yJx4a65c_init_da8c8 : MethodName := ⟨RJx4a65c, "<init>", "()V"⟩
abbrev cJx4a65c_grow_92f84 : ByteArray := prog_45_method_6_code
def yJx4a65c_grow_92f84 : MethodName := ⟨RJx4a65c, "grow", "(I)[Ljava/lang/Object;"⟩
abbrev cJx4a65c_grow_d5877 : ByteArray := prog_45_method_7_code
def yJx4a65c_grow_d5877 : MethodName := ⟨RJx4a65c, "grow", "()[Ljava/lang/Object;"⟩
abbrev cJx4a65c_size_8abf5 : ByteArray := prog_45_method_8_code
def yJx4a65c_size_8abf5 : MethodName := ⟨RJx4a65c, "size", "()I"⟩
abbrev cJx4a65c_elementData_915e3 : ByteArray := prog_45_method_18_code
def yJx4a65c_elementData_915e3 : MethodName := ⟨RJx4a65c, "elementData", "(I)Ljava/lang/Object;"⟩
abbrev cJx4a65c_get_915e3 : ByteArray := prog_45_method_20_code
def yJx4a65c_get_915e3 : MethodName := ⟨RJx4a65c, "get", "(I)Ljava/lang/Object;"⟩
abbrev cJx4a65c_add_72be8 : ByteArray := prog_45_method_24_code
def yJx4a65c_add_72be8 : MethodName := ⟨RJx4a65c, "add", "(Ljava/lang/Object;[Ljava/lang/Object;I)V"⟩
abbrev cJx4a65c_add_9ea2d : ByteArray := prog_45_method_25_code
def yJx4a65c_add_9ea2d : MethodName := ⟨RJx4a65c, "add", "(Ljava/lang/Object;)Z"⟩
abbrev cJx4a65c_clear_da8c8 : ByteArray := prog_45_method_40_code
def yJx4a65c_clear_da8c8 : MethodName := ⟨RJx4a65c, "clear", "()V"⟩
abbrev cJx4a65c_sort_a3821 : ByteArray := prog_45_method_66_code
def yJx4a65c_sort_a3821 : MethodName := ⟨RJx4a65c, "sort", "(Ljava/util/Comparator;)V"⟩
def RJ7 : String := "java/util/Arrays"
abbrev cJ7_rangeCheck_23922 : ByteArray := prog_48_method_30_code
def yJ7_rangeCheck_23922 : MethodName := ⟨RJ7, "rangeCheck", "(III)V"⟩
abbrev cJ7_sort_a871f : ByteArray := prog_48_method_43_code
def yJ7_sort_a871f : MethodName := ⟨RJ7, "sort", "([Ljava/lang/Object;IILjava/util/Comparator;)V"⟩
abbrev cJ7_fill_53178 : ByteArray := prog_48_method_103_code
def yJ7_fill_53178 : MethodName := ⟨RJ7, "fill", "([II)V"⟩
abbrev cJ7_copyOf_1904c : ByteArray := prog_48_method_119_code
def yJ7_copyOf_1904c : MethodName := ⟨RJ7, "copyOf", "([Ljava/lang/Object;I)[Ljava/lang/Object;"⟩
abbrev cJ7_copyOf_6403c : ByteArray := prog_48_method_120_code
def yJ7_copyOf_6403c : MethodName := ⟨RJ7, "copyOf", "([Ljava/lang/Object;ILjava/lang/Class;)[Ljava/lang/Object;"⟩
def RJ15 : String := "java/util/Objects"
abbrev cJ15_checkIndex_7cf53 : ByteArray := prog_58_method_17_code
def yJ15_checkIndex_7cf53 : MethodName := ⟨RJ15, "checkIndex", "(II)I"⟩
def RJxfee68 : String := "java/util/TimSort"
abbrev cJxfee68_sort_c7964 : ByteArray := prog_61_method_2_code
def yJxfee68_sort_c7964 : MethodName := ⟨RJxfee68, "sort", "([Ljava/lang/Object;IILjava/util/Comparator;[Ljava/lang/Object;II)V"⟩
abbrev cJxfee68_binarySort_68778 : ByteArray := prog_61_method_3_code
def yJxfee68_binarySort_68778 : MethodName := ⟨RJxfee68, "binarySort", "([Ljava/lang/Object;IIILjava/util/Comparator;)V"⟩
abbrev cJxfee68_countRunAndMakeAscending_9f01e : ByteArray := prog_61_method_4_code
def yJxfee68_countRunAndMakeAscending_9f01e : MethodName := ⟨RJxfee68, "countRunAndMakeAscending", "([Ljava/lang/Object;IILjava/util/Comparator;)I"⟩
def RJ8 : String := "jdk/internal/util/ArraysSupport"
abbrev cJ8_newLength_cabcc : ByteArray := prog_64_method_27_code
def yJ8_newLength_cabcc : MethodName := ⟨RJ8, "newLength", "(III)I"⟩
def RJ3 : String := "jdk/internal/util/Preconditions"
abbrev cJ3_checkIndex_8e157 : ByteArray := prog_65_method_11_code
def yJ3_checkIndex_8e157 : MethodName := ⟨RJ3, "checkIndex", "(IILjava/util/function/BiFunction;)I"⟩
def RL : String := "WeightlatticeLaw"
abbrev cL_choose : ByteArray := method_3_code
def yL_choose : MethodName := ⟨RL, "choose", "(LWeightlattice;CI[J)I"⟩
abbrev cL_matrix : ByteArray := method_4_code
def yL_matrix : MethodName := ⟨RL, "matrix", "(LWeightlattice;II[J)I"⟩
abbrev cL_coefficient : ByteArray := method_5_code
def yL_coefficient : MethodName := ⟨RL, "coefficient", "(LWeightlattice;II[J)I"⟩
abbrev cL_square : ByteArray := method_6_code
def yL_square : MethodName := ⟨RL, "square", "(LWeightlattice;I[J)I"⟩
abbrev cL_exponent : ByteArray := method_7_code
def yL_exponent : MethodName := ⟨RL, "exponent", "(LWeightlattice;I[J)I"⟩
abbrev cL_order : ByteArray := method_8_code
def yL_order : MethodName := ⟨RL, "order", "(LWeightlattice;[J)I"⟩
abbrev cL_put : ByteArray := method_9_code
def yL_put : MethodName := ⟨RL, "put", "(LWeightlattice;I[J)I"⟩
abbrev cL_length : ByteArray := method_10_code
def yL_length : MethodName := ⟨RL, "length", "(LWeightlattice;[J)I"⟩
abbrev cL_reducedAt : ByteArray := method_11_code
def yL_reducedAt : MethodName := ⟨RL, "reducedAt", "(LWeightlattice;I[J)I"⟩
abbrev cL_goesDown : ByteArray := method_12_code
def yL_goesDown : MethodName := ⟨RL, "goesDown", "(LWeightlattice;IZ[J)I"⟩
abbrev cL_keep : ByteArray := method_13_code
def yL_keep : MethodName := ⟨RL, "keep", "(LWeightlattice;[J)I"⟩
abbrev cL_isBelow : ByteArray := method_14_code
def yL_isBelow : MethodName := ⟨RL, "isBelow", "(LWeightlattice;[J)I"⟩
abbrev cL_polynomial : ByteArray := method_15_code
def yL_polynomial : MethodName := ⟨RL, "polynomial", "(LWeightlattice;I[J)I"⟩
abbrev cL_set : ByteArray := method_16_code
def yL_set : MethodName := ⟨RL, "set", "(LWeightlattice;III[J)I"⟩
abbrev cL_get : ByteArray := method_17_code
def yL_get : MethodName := ⟨RL, "get", "(LWeightlattice;II[J)I"⟩
abbrev cL_act : ByteArray := method_18_code
def yL_act : MethodName := ⟨RL, "act", "(LWeightlattice;I[J)I"⟩
abbrev cL_raise : ByteArray := method_19_code
def yL_raise : MethodName := ⟨RL, "raise", "(LWeightlattice;I[J)I"⟩
abbrev cL_orbit : ByteArray := method_20_code
def yL_orbit : MethodName := ⟨RL, "orbit", "(LWeightlattice;I[J)I"⟩
abbrev cL_pairing : ByteArray := method_21_code
def yL_pairing : MethodName := ⟨RL, "pairing", "(LWeightlattice;II[J)I"⟩
abbrev cL_isLower : ByteArray := method_22_code
def yL_isLower : MethodName := ⟨RL, "isLower", "(LWeightlattice;II[J)I"⟩
abbrev cL_dimension : ByteArray := method_23_code
def yL_dimension : MethodName := ⟨RL, "dimension", "(LWeightlattice;I[J)I"⟩
abbrev cL_multiplicity : ByteArray := method_24_code
def yL_multiplicity : MethodName := ⟨RL, "multiplicity", "(LWeightlattice;II[J)I"⟩
abbrev cL_dominant : ByteArray := method_25_code
def yL_dominant : MethodName := ⟨RL, "dominant", "(LWeightlattice;I[J)I"⟩
abbrev cL_multiply : ByteArray := method_26_code
def yL_multiply : MethodName := ⟨RL, "multiply", "(LWeightlattice;II[J)I"⟩
abbrev cL_fuse : ByteArray := method_27_code
def yL_fuse : MethodName := ⟨RL, "fuse", "(LWeightlattice;III[J)I"⟩
abbrev cL_branch : ByteArray := method_28_code
def yL_branch : MethodName := ⟨RL, "branch", "(LWeightlattice;II[J)I"⟩
abbrev cL_partAt : ByteArray := method_29_code
def yL_partAt : MethodName := ⟨RL, "partAt", "(LWeightlattice;II[J)I"⟩
abbrev cL_times : ByteArray := method_30_code
def yL_times : MethodName := ⟨RL, "times", "(LWeightlattice;I[J)I"⟩
abbrev cL_meanLength : ByteArray := method_31_code
def yL_meanLength : MethodName := ⟨RL, "meanLength", "(LWeightlattice;[D)I"⟩
abbrev cL_ratio : ByteArray := method_32_code
def yL_ratio : MethodName := ⟨RL, "ratio", "(LWeightlattice;II[D)I"⟩
abbrev cL_isConsistent : ByteArray := method_33_code
def yL_isConsistent : MethodName := ⟨RL, "isConsistent", "(LWeightlattice;[J)I"⟩
abbrev cL_law : ByteArray := code
def yL_law : MethodName := ⟨RL, "law", "([I)Z"⟩
/-- the classes whose objects the worlds hold -/
abbrev xcl : List vw_C := [(RX9, TX9, 11), (RX4, TX4, 14), (RX8, TX8, 3), (RX2, TX2, 7), (RX7, TX7, 11), (RX5, TX5, 3), (RX6, TX6, 3), (RX0, TX0, 5), (RX3, TX3, 3), (RX13, TX13, 11), (RJx4a65c, TJx4a65c, 3), (RX10, TX10, 0)]
end
section
/-! A SMALL MACHINE IN FUNCTIONS: what a run of the bytecode does to numbers, references and cells, in a form that the kernel counts through; and what it says of the machine itself. -/
abbrev xV : Type := Nat × Nat
abbrev xC : Type := Nat × List xV
abbrev xW : Type := List xC
abbrev xT : Type := Nat × xV × xW × Nat × Nat
abbrev xK : Type := Nat → List xV → List xV → xW → Nat → Nat → Option xT
abbrev xF : Type := Nat → List xV → xW → Option xT
abbrev xO : Type := xF → xK → List xV → List xV → xW → Nat → Nat → Option xT
abbrev xE : Type := va_G × (Nat → ClassId) × Nat × (Nat → Int32) × (Nat → Nat)
abbrev xP : Type := List ((Nat × xV × xV) × xV)
/-- the value at a place, handed on -/
noncomputable def x_nth {α β : Type} (l : List α) : Nat → (α → Option β) → Option β := List.rec (motive := fun _ => Nat → (α → Option β) → Option β) (fun _ _ => none) (fun a _ ih n k => Nat.rec (motive := fun _ => Option β) (k a) (fun m _ => ih m k) n) l
theorem x_nth_some {α β : Type} {l : List α} {n : Nat} {k : α → Option β} {r : β} (h : x_nth l n k = some r) : ∃ a, l[n]? = some a ∧ k a = some r := by
  induction l generalizing n with
  | nil => cases h
  | cons a t ih =>
    cases n with
    | zero => exact ⟨a, rfl, h⟩
    | succ n => exact ih (n := n) h
/-- the list with a value put at a place, handed on -/
noncomputable def x_set {α β : Type} (v : α) (l : List α) : Nat → (List α → Option β) → Option β := List.rec (motive := fun _ => Nat → (List α → Option β) → Option β) (fun _ _ => none) (fun a t ih n k => Nat.rec (motive := fun _ => Option β) (k (v :: t)) (fun m _ => ih m (fun t' => k (a :: t'))) n) l
theorem x_set_some {α β : Type} {v : α} {l : List α} {n : Nat} {k : List α → Option β} {r : β} (h : x_set v l n k = some r) : n < l.length ∧ k (l.set n v) = some r := by
  induction l generalizing n k with
  | nil => cases h
  | cons a t ih =>
    cases n with
    | zero => exact ⟨Nat.succ_pos _, h⟩
    | succ n =>
      obtain ⟨h1, h2⟩ := ih (n := n) (k := fun t' => k (a :: t')) h
      exact ⟨Nat.succ_lt_succ h1, h2⟩
/-- a row with one thing more at its end, handed on -/
noncomputable def x_push {α β : Type} (v : α) (l : List α) : (List α → Option β) → Option β := List.rec (motive := fun _ => (List α → Option β) → Option β) (fun k => k [v]) (fun a _ ih k => ih (fun t' => k (a :: t'))) l
theorem x_push_eq {α β : Type} {v : α} {l : List α} {k : List α → Option β} : x_push v l k = k (l ++ [v]) := by
  induction l generalizing k with
  | nil => rfl
  | cons a t ih => exact ih (k := fun t' => k (a :: t'))
/-- a number, counted out -/
noncomputable def x_fn {β : Type} (n : Nat) (k : Nat → β) : β := Nat.rec (motive := fun _ => β) (k 0) (fun m _ => k (Nat.succ m)) n
theorem x_fn_eq {β : Type} (n : Nat) (k : Nat → β) : x_fn n k = k n := by cases n <;> rfl
def x_if {β : Type} (b : Bool) (k : Option β) : Option β := match b with
  | true => k
  | false => none
theorem x_if_some {β : Type} {b : Bool} {k : Option β} {r : β} (h : x_if b k = some r) : b = true ∧ k = some r := by
  cases b
  · cases h
  · exact ⟨rfl, h⟩
def x_pop {β : Type} (st : List xV) (k : xV → List xV → Option β) : Option β := match st with
  | [] => none
  | v :: t => k v t
theorem x_pop_some {β : Type} {st : List xV} {k : xV → List xV → Option β} {r : β} (h : x_pop st k = some r) : ∃ v t, st = v :: t ∧ k v t = some r := by
  cases st with
  | nil => cases h
  | cons v t => exact ⟨v, t, rfl, h⟩
/-- the payload of a value of that kind -/
def x_tag {β : Type} (t : Nat) (v : xV) (k : Nat → Option β) : Option β := match v with
  | (a, n) => x_if (Nat.beq a t) (k n)
theorem x_tag_some {β : Type} {t : Nat} {v : xV} {k : Nat → Option β} {r : β} (h : x_tag t v k = some r) : ∃ n, v = (t, n) ∧ k n = some r := by
  obtain ⟨a, n⟩ := v
  obtain ⟨h1, h2⟩ := x_if_some h
  exact ⟨n, by rw [Nat.eq_of_beq_eq_true h1], h2⟩
theorem x_nI (x : Int32) : nI x.toUInt32.toNat = x := by
  unfold nI
  apply Int32.toBitVec_inj.mp
  simp [Int32.ofNat, UInt32.toNat]
theorem x_lN (x : Int64) : lN x.toUInt64.toNat = x := by
  unfold lN
  apply Int64.toBitVec_inj.mp
  simp [Int64.ofNat, UInt64.toNat]
end
section
/-! WHAT THE SMALL MACHINE'S VALUES, CELLS AND FRAMES ARE IN THE MACHINE -/
/-- the words that every method is given: the good ones of the tables -/
noncomputable def xTb : List Cond := lw_tbl.filter goodWord
theorem x_word {w : Cond} (h : w ∈ lw_tbl) (hg : goodWord w = true) : w ∈ xTb := List.mem_filter.mpr ⟨h, hg⟩
theorem x_in (i : Nat) {w : Cond} (h : lw_tbl[i]? = some w) (hg : goodWord w = true) : w ∈ xTb := x_word (List.mem_of_getElem? h) hg
theorem x_good {w : Cond} (h : w ∈ xTb) : goodWord w = true := (List.mem_filter.mp h).2
theorem x_goodIn {Ts ws : List Cond} (h : ∀ w ∈ ws, w ∈ Ts ∧ goodWord w = true) : GoodIn Ts ws := fun w hw => ⟨(h w hw).1, good_of_word (h w hw).2⟩
/-- a number of the small machine, known or named -/
def x_ri (rho : Nat → Int32) (v : xV) : Int32 := cond (Nat.beq v.1 2) (nI v.2) (rho v.2)
/-- a value of the small machine, and the machine's own: al the cells' addresses, in their order -/
def x_rv (E : xE) (al : List Nat) (v : xV) (V : Value) : Prop := match v with
  | (0, _) => V = .null
  | (1, n) => ∃ a, al[n]? = some a ∧ V = .ref a
  | (2, n) => V = .int (nI n)
  | (3, n) => V = .long (lN n)
  | (4, n) => V = .int (E.2.2.2.1 n)
  | (5, n) => V = .ref (E.2.2.2.2 n)
  | (6, n) => V = .float (UInt32.ofNat n)
  | (7, n) => V = .double (UInt64.ofNat n)
  | (8, _) => ∃ a, V = .ref a
  | _ => False
theorem x_rv.mono {E : xE} {al be : List Nat} {v : xV} {V : Value} (hp : al <+: be) (h : x_rv E al v V) : x_rv E be v V := by
  obtain ⟨t, n⟩ := v
  match t, h with
  | 0, h => exact h
  | 1, h =>
    obtain ⟨a, h1, h2⟩ := h
    obtain ⟨g, rfl⟩ := hp
    exact ⟨a, by rw [List.getElem?_append_left (List.getElem?_eq_some_iff.mp h1).1]; exact h1, h2⟩
  | 2, h => exact h
  | 3, h => exact h
  | 4, h => exact h
  | 5, h => exact h
  | 6, h => exact h
  | 7, h => exact h
  | 8, h => exact h
  | (t + 9), h => exact h
def x_RS (E : xE) (al : List Nat) : List xV → List Value → Prop
  | [], [] => True
  | v :: l, V :: m => x_rv E al v V ∧ x_RS E al l m
  | _, _ => False
theorem x_RS.mono {E : xE} {al be : List Nat} (hp : al <+: be) : ∀ {l : List xV} {m : List Value}, x_RS E al l m → x_RS E be l m
  | [], [], _ => trivial
  | _ :: _, _ :: _, h => ⟨h.1.mono hp, x_RS.mono hp h.2⟩
  | [], _ :: _, h => h
  | _ :: _, [], h => h
theorem x_RS.cons {E : xE} {al : List Nat} {v : xV} {l : List xV} {m : List Value} (h : x_RS E al (v :: l) m) : ∃ V t, m = V :: t ∧ x_rv E al v V ∧ x_RS E al l t := by
  cases m with
  | nil => exact False.elim h
  | cons V t => exact ⟨V, t, rfl, h.1, h.2⟩
theorem x_RS.nil {E : xE} {al : List Nat} {m : List Value} (h : x_RS E al [] m) : m = [] := by
  cases m with
  | nil => rfl
  | cons V t => exact False.elim h
theorem x_RS.get {E : xE} {al : List Nat} : ∀ {l : List xV} {m : List Value}, x_RS E al l m → ∀ {k : Nat} {v : xV}, l[k]? = some v → ∃ V, m[k]? = some V ∧ x_rv E al v V
  | [], _, _, k, v, hk => by simp at hk
  | a :: l, [], h, _, _, _ => False.elim h
  | a :: l, b :: m, h, 0, v, hk => ⟨b, rfl, by cases hk; exact h.1⟩
  | a :: l, b :: m, h, k + 1, v, hk => x_RS.get (l := l) (m := m) h.2 (k := k) hk
theorem x_RS.set {E : xE} {al : List Nat} {v : xV} {V : Value} (hv : x_rv E al v V) : ∀ {l : List xV} {m : List Value}, x_RS E al l m → ∀ (k : Nat), x_RS E al (l.set k v) (m.set k V)
  | [], [], _, _ => trivial
  | a :: l, b :: m, h, 0 => ⟨hv, h.2⟩
  | a :: l, b :: m, h, k + 1 => ⟨h.1, x_RS.set hv (l := l) (m := m) h.2 k⟩
  | [], _ :: _, h, _ => False.elim h
  | _ :: _, [], h, _ => False.elim h
theorem x_RS.len {E : xE} {al : List Nat} : ∀ {l : List xV} {m : List Value}, x_RS E al l m → l.length = m.length
  | [], [], _ => rfl
  | a :: l, b :: m, h => congrArg (· + 1) (x_RS.len (l := l) (m := m) h.2)
  | [], _ :: _, h => False.elim h
  | _ :: _, [], h => False.elim h
theorem x_RS.app {E : xE} {al : List Nat} : ∀ {l l2 : List xV} {m m2 : List Value}, x_RS E al l m → x_RS E al l2 m2 → x_RS E al (l ++ l2) (m ++ m2)
  | [], _, [], _, _, h2 => h2
  | a :: l, _, b :: m, _, h, h2 => ⟨h.1, x_RS.app (l := l) (m := m) h.2 h2⟩
  | [], _, _ :: _, _, h, _ => False.elim h
  | _ :: _, _, [], _, h, _ => False.elim h
theorem x_RS.split {E : xE} {al : List Nat} : ∀ {l l2 : List xV} {m : List Value}, x_RS E al (l ++ l2) m → ∃ m1 m2, m = m1 ++ m2 ∧ x_RS E al l m1 ∧ x_RS E al l2 m2
  | [], _, m, h => ⟨[], m, rfl, trivial, h⟩
  | a :: l, l2, [], h => False.elim h
  | a :: l, l2, b :: m, h => by
    obtain ⟨m1, m2, rfl, h1, h2⟩ := x_RS.split (l := l) (l2 := l2) (m := m) h.2
    exact ⟨b :: m1, m2, rfl, ⟨h.1, h1⟩, h2⟩
theorem x_RS.rev {E : xE} {al : List Nat} : ∀ {l : List xV} {m : List Value}, x_RS E al l m → x_RS E al l.reverse m.reverse
  | [], [], _ => trivial
  | a :: l, b :: m, h => by
    rw [List.reverse_cons, List.reverse_cons]
    exact x_RS.app (x_RS.rev (l := l) (m := m) h.2) ⟨h.1, trivial⟩
  | [], _ :: _, h => False.elim h
  | _ :: _, [], h => False.elim h
/-- the arrays' kinds: 100 and on -/
def x_tyl : List FieldType := [.int, .long, .double, .object "java/lang/Object", .array .int, .array .long, .object "Weightlattice$Register"]
def x_tys (dA : Nat → ClassId) : List (ClassId × FieldType) := [(dA 0, .int), (dA 1, .long), (dA 2, .double), (dA 3, .object "java/lang/Object"), (dA 4, .array .int), (dA 5, .array .long), (dA 6, .object "Weightlattice$Register")]
/-- a cell of the small machine, and the machine's own -/
def x_RC (E : xE) (al : List Nat) (c : xC) (e : va_E) : Prop :=
  (c.1 < 100 ∧ ∃ vs, e = .inr (c.1, vs) ∧ x_RS E al c.2 vs) ∨
  (c.1 = 100 ∧ ∃ f : Nat → Int32, e = .inl (E.2.1 0, c.2.length, .inl f) ∧ ∀ j v, c.2[j]? = some v → x_rv E al v (.int (f j))) ∨
  (c.1 = 101 ∧ ∃ f : Nat → Int64, e = .inl (E.2.1 1, c.2.length, .inr (.inl f)) ∧ ∀ j v, c.2[j]? = some v → x_rv E al v (.long (f j))) ∨
  (c.1 = 102 ∧ ∃ f : Nat → UInt64, e = .inl (E.2.1 2, c.2.length, .inr (.inr (.inr (.inl f)))) ∧ ∀ j v, c.2[j]? = some v → x_rv E al v (.double (f j))) ∨
  (103 ≤ c.1 ∧ c.1 < 107 ∧ ∃ f : Nat → Option Nat, e = .inl (E.2.1 (c.1 - 100), c.2.length, .inr (.inr (.inr (.inr f)))) ∧ ∀ j v, c.2[j]? = some v → x_rv E al v (va_rf (f j)))
theorem x_RC.mono {E : xE} {al be : List Nat} {c : xC} {e : va_E} (hp : al <+: be) (h : x_RC E al c e) : x_RC E be c e := by
  rcases h with ⟨h1, vs, h2, h3⟩ | ⟨h1, f, h2, h3⟩ | ⟨h1, f, h2, h3⟩ | ⟨h1, f, h2, h3⟩ | ⟨h0, h1, f, h2, h3⟩
  · exact Or.inl ⟨h1, vs, h2, h3.mono hp⟩
  · exact Or.inr (Or.inl ⟨h1, f, h2, fun j v hj => (h3 j v hj).mono hp⟩)
  · exact Or.inr (Or.inr (Or.inl ⟨h1, f, h2, fun j v hj => (h3 j v hj).mono hp⟩))
  · exact Or.inr (Or.inr (Or.inr (Or.inl ⟨h1, f, h2, fun j v hj => (h3 j v hj).mono hp⟩)))
  · exact Or.inr (Or.inr (Or.inr (Or.inr ⟨h0, h1, f, h2, fun j v hj => (h3 j v hj).mono hp⟩)))
abbrev x_al (ws : va_W) : List Nat := ws.map (·.1)
/-- the cells, one by one -/
def x_RW (E : xE) (w : xW) (ws : va_W) : Prop := w.length = ws.length ∧ ∀ (i : Nat) (c : xC) (q : Nat × va_E), w[i]? = some c → ws[i]? = some q → x_RC E (x_al ws) c q.2
theorem x_RW.get {E : xE} {w : xW} {ws : va_W} (h : x_RW E w ws) {i : Nat} {c : xC} (hi : w[i]? = some c) {a : Nat} (ha : (x_al ws)[i]? = some a) : ∃ e, ws[i]? = some (a, e) ∧ x_RC E (x_al ws) c e := by
  obtain ⟨q, hq, rfl⟩ : ∃ q, ws[i]? = some q ∧ q.1 = a := by
    rw [List.getElem?_map] at ha
    cases hw : ws[i]? with
    | none => rw [hw] at ha; cases ha
    | some q => rw [hw] at ha; exact ⟨q, rfl, Option.some.inj ha⟩
  exact ⟨q.2, hq, h.2 i c q hi hq⟩
theorem x_al_set {ws : va_W} {i a : Nat} {e e' : va_E} (h : ws[i]? = some (a, e)) : x_al (ws.set i (a, e')) = x_al ws := by
  apply List.ext_getElem?
  intro j
  rw [List.getElem?_map, List.getElem?_map]
  by_cases hj : i = j
  · subst hj
    rw [List.getElem?_set_self (List.getElem?_eq_some_iff.mp h).1, h]
    rfl
  · rw [List.getElem?_set_ne hj]
theorem x_RW.set {E : xE} {w : xW} {ws : va_W} (h : x_RW E w ws) {i a : Nat} {e e' : va_E} {c' : xC} (hi : ws[i]? = some (a, e)) (hc : x_RC E (x_al ws) c' e') : x_RW E (w.set i c') (ws.set i (a, e')) := by
  refine ⟨by rw [List.length_set, List.length_set]; exact h.1, fun j c q hj hq => ?_⟩
  rw [x_al_set hi]
  have hl : i < ws.length := (List.getElem?_eq_some_iff.mp hi).1
  by_cases hij : i = j
  · subst hij
    rw [List.getElem?_set_self (by rw [h.1]; exact hl)] at hj
    rw [List.getElem?_set_self hl] at hq
    cases hj
    cases hq
    exact hc
  · rw [List.getElem?_set_ne hij] at hj hq
    exact h.2 j c q hj hq
theorem x_RW.push {E : xE} {w : xW} {ws : va_W} (h : x_RW E w ws) {a : Nat} {e : va_E} {c : xC} (hc : x_RC E (x_al (ws ++ [(a, e)])) c e) : x_RW E (w ++ [c]) (ws ++ [(a, e)]) := by
  refine ⟨by rw [List.length_append, List.length_append, h.1]; rfl, fun j c2 q hj hq => ?_⟩
  by_cases hl : j < ws.length
  · rw [List.getElem?_append_left (by rw [h.1]; exact hl)] at hj
    rw [List.getElem?_append_left hl] at hq
    exact (h.2 j c2 q hj hq).mono ⟨[a], by simp⟩
  · rw [List.getElem?_append_right (by rw [h.1]; omega)] at hj
    rw [List.getElem?_append_right (by omega)] at hq
    have hz : j - ws.length < 1 := (List.getElem?_eq_some_iff.mp hq).1
    have hj0 : j = ws.length := by omega
    subst hj0
    rw [h.1, Nat.sub_self] at hj
    rw [Nat.sub_self] at hq
    cases hj
    cases hq
    exact hc
/-- the locals -/
def x_RL (E : xE) (al : List Nat) (sl : List xV) (lv : List (Nat × Value)) : Prop := ∀ (i : Nat) (v : xV), sl[i]? = some v → v.1 ≠ 9 → ∃ V, (i, V) ∈ lv ∧ x_rv E al v V
theorem x_RL.mono {E : xE} {al be : List Nat} {sl : List xV} {lv : List (Nat × Value)} (hp : al <+: be) (h : x_RL E al sl lv) : x_RL E be sl lv := fun i v hi hv => by
  obtain ⟨V, h1, h2⟩ := h i v hi hv
  exact ⟨V, h1, h2.mono hp⟩
end
section
/-! A FRAME, ITS CONTEXT, A CONTRACT -/
abbrev x_A (E : xE) : Nat → Prop := fun q => E.2.2.1 ≤ q
abbrev x_xi (E : xE) : Nat → Nat := E.2.2.2.2
/-- what holds of the start, and goes on holding: the statics, the constants, the words that aren't good ones -/
def x_En (nF : List (String × Nat × String × String × String × String)) (nM : List (String × Nat × MethodName × String)) (nC : List (String × String)) (nI : List (String × MethodName × MethodName)) (nD : List MethodName) (xs : Nat → Int32) (L : Nat) (E : xE) (U : State) (H : Heap) : Prop :=
  (vx_Zq Bundle.tN "UNASSIGNED_STACK" Bundle.steD (x_A E) U H ∧ vx_Zq Bundle.tN "SUPPRESSED_SENTINEL" Bundle.listD (x_A E) U H) ∧
  (va_Z "java/util/ArrayList" "DEFAULTCAPACITY_EMPTY_ELEMENTDATA" "[Ljava/lang/Object;" (.ref (x_xi E 1)) (x_A E) U H ∧ va_T (.object "java/lang/Object") (x_xi E 1) 0 (fun _ => .null) (x_A E) U H) ∧
  (va_Z "java/util/Arrays$LegacyMergeSort" "userRequested" "Z" (.int 0) (x_A E) U H ∧ va_Z "java/util/TimSort" "$assertionsDisabled" "Z" (.int 1) (x_A E) U H) ∧
  (va_Mi "[Ljava/lang/Object;" (x_xi E 2) U ∧ vk_R "Weightlattice" 80 "no such system" (x_xi E 4) U ∧ vk_R "Weightlattice" 316 "no system was chosen" (x_xi E 5) U) ∧
  (va_AO "java/lang/Object" U ∧ va_AO "Weightlattice$Register" U ∧ va_AOA .int U ∧ va_AOA .long U ∧ va_Dc U) ∧
  ((∀ q ∈ nF, va_Nw (.fieldLinkNest q.1 q.2.1 q.2.2.1 q.2.2.2.1 q.2.2.2.2.1 q.2.2.2.2.2) U) ∧ (∀ q ∈ nM, va_Nw (.methodLinkNest q.1 q.2.1 q.2.2.1 q.2.2.2) U) ∧ (∀ q ∈ nC, va_Nw (.castable q.1 q.2) U) ∧ (∀ q ∈ nI, q.2.1.cls ≠ "java/lang/invoke/MethodHandle" ∧ q.2.1.cls ≠ "java/lang/invoke/VarHandle" ∧ va_Fw q.1 q.2.1 q.2.2 U) ∧ (∀ q ∈ nD, va_Nw (.declares q) U)) ∧
  (va_X (x_xi E 0) L xs U H ∧ ¬ x_A E (x_xi E 0) ∧ x_xi E 0 < H.size)
theorem va_AOA.moved {t : FieldType} {u U : State} (hvm : u.vm.Alike U.vm) (h : va_AOA t u) : va_AOA t U := over_moved hvm h
theorem x_En.moved {nF nM nC nI nD xs L} {E : xE} {u U : State} {H H1 : Heap} (hW : u.WarmedH U.vm) (hz : H.size ≤ H1.size) (hq : ∀ a : Nat, a < H.size → ¬ x_A E a → H1[a]? = H[a]?) (h : x_En nF nM nC nI nD xs L E u H) : x_En nF nM nC nI nD xs L E U H1 := by
  obtain ⟨⟨a1, a2⟩, ⟨b1, b2⟩, ⟨c1, c2⟩, ⟨d1, d2, d3⟩, ⟨e1, e2, e3, e4, e5⟩, ⟨f1, f2, f3, f4, f5⟩, g1, g2, g3⟩ := h
  have hv := hW.alike
  refine ⟨⟨(a1.moved hv).kept hq, (a2.moved hv).kept hq⟩, ⟨(b1.moved hv).kept hq, (b2.moved hv).kept hq⟩, ⟨(c1.moved hv).kept hq, (c2.moved hv).kept hq⟩, ⟨d1.moved hv, vk_R.warm hW d2, vk_R.warm hW d3⟩, ⟨e1.moved hv, e2.moved hv, e3.moved hv, e4.moved hv, e5.moved hv⟩, ⟨fun q hq => va_Nw.warmF hW (f1 q hq), fun q hq => va_Nw.warmM hW (f2 q hq), fun q hq => va_Nw.warmC hW (f3 q hq), fun q hq => ?_, fun q hq => va_Nw.warmD hW (f5 q hq)⟩, (g1.moved hv).kept (hq _ g3 g2), g2, Nat.lt_of_lt_of_le g3 hz⟩
  obtain ⟨k1, k2, k3⟩ := f4 q hq
  exact ⟨k1, k2, k3.moved ⟨k1, k2⟩ hv⟩
/-- the static data of a run: nest words, casts, interface calls, the script, its length, what is known of named numbers -/
abbrev xD : Type := (List (String × Nat × String × String × String × String)) × (List (String × Nat × MethodName × String)) × (List (String × String)) × (List (String × MethodName × MethodName)) × (List MethodName) × Nat × xP
abbrev x_EnD (Z : xD) (E : xE) (U : State) (H : Heap) : Prop := x_En Z.1 Z.2.1 Z.2.2.1 Z.2.2.2.1 Z.2.2.2.2.1 E.2.2.2.1 Z.2.2.2.2.2.1 E U H
/-- a named result of an operation: its number, what it makes of two ints -/
def x_fop : Nat → Int32 → Int32 → Int32
  | 0, a, b => a &&& b
  | 1, a, _ => (a.toUInt32 % 65536).toInt32
  | 2, a, b => cond (decide (a = b)) 1 0
  | 3, a, b => cond (!decide (a = b)) 1 0
  | 4, a, b => cond (decide (a < b)) 1 0
  | 5, a, b => cond (decide (b ≤ a)) 1 0
  | 6, a, b => cond (decide (b < a)) 1 0
  | 7, a, b => cond (decide (a ≤ b)) 1 0
  | _, _, _ => 0
def x_isI (v : xV) : Bool := Nat.beq v.1 2 || Nat.beq v.1 4
/-- what the named results say is so -/
def x_FOK (E : xE) (P : xP) : Prop := ∀ q ∈ P, x_isI q.1.2.1 = true ∧ x_isI q.1.2.2 = true ∧ x_isI q.2 = true ∧ x_fop q.1.1 (x_ri E.2.2.2.1 q.1.2.1) (x_ri E.2.2.2.1 q.1.2.2) = x_ri E.2.2.2.1 q.2
/-- the world that a state holds -/
def x_Wd (E : xE) (w : xW) (ws : va_W) (H : Heap) : Prop := x_RW E w ws ∧ va_P E.1 xcl ws H ∧ va_D (x_A E) ws
/-- the frame's state, as the small machine has it, comes to the result r -/
def x_Gd (E : xE) (nL : Nat) (H0 : Heap) (al0 : List Nat) (G : Heap → List Loc → Nat → Nat → Nat → Array Slot → List Value → Prop) (r : xT) (pc : Nat) (ls st : List xV) (w : xW) (k n : Nat) : Prop :=
  k ≤ r.2.2.2.1 ∧ n ≤ r.2.2.2.2 ∧ ∀ (ws : va_W) (H : Heap) (locs : List Loc) (als : Array Slot) (lv : List (Nat × Value)) (vst : List Value), x_Wd E w ws H → al0 <+: x_al ws → va_S (x_A E) H0 H locs → lv_has als nL lv → x_RL E (x_al ws) ls lv → x_RS E (x_al ws) st vst → G H locs k n pc als vst
abbrev x_G (p : Program) (l : Launch) (e : Env) (R : Room) (s : State) (m : MethodId) (args : Array Value) (below : List Frame) (meth : Method) (c : Code) (Q : State → Prop) : Heap → List Loc → Nat → Nat → Nat → Array Slot → List Value → Prop := fun H locs k n pc als vst => W p l e R s m args below meth c H locs k n Q (F0 m pc als vst)
/-- an answer -/
def x_Ro (E : xE) (al : List Nat) (r : xT) (vo : Option Value) : Prop := (r.1 = 0 ∧ ∃ V, vo = some V ∧ x_rv E al r.2.1 V) ∨ (r.1 = 1 ∧ vo = none)
/-- the return instructions -/
def x_rti (cc : ByteArray) (pc : Nat) (rt : Option FieldType) (vo : Option Value) : Prop :=
  (vo = none ∧ rt = none ∧ decode cc pc = .ok (.return_, 1)) ∨
  (∃ x ty, vo = some (.int x) ∧ rt = some ty ∧ narrow ty (.int x) = .int x ∧ decode cc pc = .ok (.ireturn, 1)) ∨
  (∃ x, vo = some (.long x) ∧ rt = some .long ∧ decode cc pc = .ok (.lreturn, 1)) ∨
  (∃ x, vo = some (.float x) ∧ rt = some .float ∧ decode cc pc = .ok (.freturn, 1)) ∨
  (∃ x, vo = some (.double x) ∧ rt = some .double ∧ decode cc pc = .ok (.dreturn, 1)) ∨
  (∃ v ty, vo = some v ∧ rt = some ty ∧ ((∃ n, ty = .object n) ∨ ∃ t, ty = .array t) ∧ (v = .null ∨ ∃ a, v = .ref a) ∧ decode cc pc = .ok (.areturn, 1))
/-- the exceptions that the class throws -/
def x_en : Nat → String
  | 0 => "java/lang/IllegalStateException"
  | _ => "java/lang/IllegalArgumentException"
abbrev x_rm (d : Nat) (r : xT) : Room := { frames := d + 8, cells := r.2.2.2.1, slots := r.2.2.2.2, locals := 70 * d + 200 }
/-- what a frame knows of itself -/
def x_Cx (own nm : String) (cc : ByteArray) (nL : Nat) (rt : Option FieldType) (hh : List (Nat × Nat × Nat × Nat)) (d : Nat) (Z : xD) (E : xE) (al0 : List Nat) (r : xT) (p : Program) (l : Launch) (e : Env) (R : Room) (s : State) (m : MethodId) (args : Array Value) (below : List Frame) (meth : Method) (c : Code) (Q : State → Prop) : Prop :=
  p.tables.exec = Jvm.exec ∧ c.code = cc ∧ c.maxLocals = nL ∧ s.vm.findClass own = some m.cls ∧ (∀ w ∈ xTb, w.before args s = true) ∧ va_K E.1 xcl (x_tys E.2.1) s ∧ x_EnD Z E s s.heap ∧ E.2.2.1 ≤ s.heap.size ∧ meth.locks = false ∧ l.stackTraces = false ∧ meth.name = nm ∧ c.exceptionTable.toList = tableOf hh ∧ x_FOK E Z.2.2.2.2.2.2 ∧
  (d + 9 ≤ R.frames ∧ 70 * (d + 1) + 200 ≤ R.locals ∧ r.2.2.2.1 ≤ R.cells ∧ r.2.2.2.2 ≤ R.slots) ∧
  (∀ (vo : Option Value) (pc : Nat) (als : Array Slot) (H : Heap) (locs : List Loc) (ws : va_W), x_Wd E r.2.2.1 ws H → al0 <+: x_al ws → va_S (x_A E) s.heap H locs → x_Ro E (x_al ws) r vo → x_rti cc pc rt vo → W p l e R s m args below meth c H locs r.2.2.2.1 r.2.2.2.2 Q (F0 m pc als vo.toList)) ∧
  (2 ≤ r.1 → ∃ (Qc : Array Value → State → Outcome → State → Prop) (XC : String → State → State → Prop), Q = vx_MQ below Qc XC args s r.2.2.2.1 r.2.2.2.2 (x_A E) ∧ ∀ (t : State) (ws : va_W), x_Wd E r.2.2.1 ws t.heap → al0 <+: x_al ws → va_F (x_A E) s t → XC (x_en (r.1 - 2)) s t)
/-- the methods: name, code, locals, type, handlers -/
abbrev xM : Type := MethodName × ByteArray × Nat × Option FieldType × List (Nat × Nat × Nat × Nat)
def x_hd (M : xM) : Cond := if M.2.2.2.2 = [] then .code M.1 M.2.1 M.2.2.1 M.2.2.2.1 else .codeWith M.1 M.2.1 M.2.2.1 M.2.2.2.1 M.2.2.2.2
noncomputable def x_ws (M : xM) : List Cond := x_hd M :: xTb
/-- what a method takes -/
def x_Pre (Z : xD) (E : xE) (w : xW) (ws : va_W) (U : State) : Prop := E.2.2.1 ≤ U.heap.size ∧ x_Wd E w ws U.heap ∧ va_K E.1 xcl (x_tys E.2.1) U ∧ x_EnD Z E U U.heap
/-- what it gives back -/
def x_Qc (E : xE) (al0 : List Nat) (r : xT) : Array Value → State → Outcome → State → Prop := fun _ st oc t => ∃ (vo : Option Value) (ws : va_W), oc = .returned vo ∧ x_Ro E (x_al ws) r vo ∧ x_Wd E r.2.2.1 ws t.heap ∧ al0 <+: x_al ws ∧ va_F (x_A E) st t
def x_Xc (E : xE) (al0 : List Nat) (r : xT) : String → State → State → Prop := fun C st t => ∃ ws : va_W, 2 ≤ r.1 ∧ C = x_en (r.1 - 2) ∧ x_Wd E r.2.2.1 ws t.heap ∧ al0 <+: x_al ws ∧ va_F (x_A E) st t
def x_Ctr (Z : xD) (d : Nat) (M : xM) (av : List xV) (w : xW) (r : xT) : Prop := ∀ (l : Launch) (E : xE) (vs : List Value) (ws : va_W), l.stackTraces = false → x_FOK E Z.2.2.2.2.2.2 → x_RS E (x_al ws) av vs → vx_Met l M.1 (x_ws M) (x_rm d r) (va_Pc vs (x_Pre Z E w ws)) (x_Qc E (x_al ws) r) (x_Xc E (x_al ws) r) r.2.2.2.1 r.2.2.2.2 (x_A E)
/-- the callees' contracts, at depth d -/
def x_Fn (ms : List xM) (Z : xD) (d : Nat) (fn : xF) : Prop := ∀ (u : Nat) (M : xM) (av : List xV) (w : xW) (r : xT), ms[u]? = some M → fn u av w = some r → x_Ctr Z d M av w r
/-- an instruction of the small machine says what the machine does -/
def x_Ok (ms : List xM) (Z : xD) (own nm : String) (cc : ByteArray) (nL : Nat) (rt : Option FieldType) (hh : List (Nat × Nat × Nat × Nat)) (pc : Nat) (o : xO) : Prop :=
  ∀ (d : Nat) (fn : xF), x_Fn ms Z d fn → ∀ (E : xE) (al0 : List Nat) (r : xT) (p : Program) (l : Launch) (e : Env) (R : Room) (s : State) (m : MethodId) (args : Array Value) (below : List Frame) (meth : Method) (c : Code) (Q : State → Prop), x_Cx own nm cc nL rt hh d Z E al0 r p l e R s m args below meth c Q →
    ∀ (cont : xK), (∀ pc ls st w k n, cont pc ls st w k n = some r → x_Gd E nL s.heap al0 (x_G p l e R s m args below meth c Q) r pc ls st w k n) →
      ∀ (ls st : List xV) (w : xW) (k n : Nat), o fn cont ls st w k n = some r → x_Gd E nL s.heap al0 (x_G p l e R s m args below meth c Q) r pc ls st w k n
end
section
/-! INSTRUCTIONS ON THE STACK ALONE -/
section XOPS
variable {ms : List xM} {Z : xD} {own nm : String} {cc : ByteArray} {nL : Nat} {rt : Option FieldType} {hh : List (Nat × Nat × Nat × Nat)} {pc : Nat}
theorem x_lift {o : xO} (hstep : ∀ (fn : xF) (cont : xK) (ls st : List xV) (w : xW) (k n : Nat) (r : xT), o fn cont ls st w k n = some r → ∃ pc' st', cont pc' ls st' w k n = some r ∧ ∀ (E : xE) (al : List Nat) (vst : List Value), x_FOK E Z.2.2.2.2.2.2 → x_RS E al st vst → ∃ vst', x_RS E al st' vst' ∧
    ∀ (p : Program) (l : Launch) (e : Env) (R : Room) (s : State) (m : MethodId) (args : Array Value) (below : List Frame) (meth : Method) (c : Code) (H : Heap) (locs : List Loc) (k n : Nat) (Q : State → Prop) (als : Array Slot), p.tables.exec = Jvm.exec → c.code = cc → s.vm.findClass own = some m.cls → (∀ w ∈ xTb, w.before args s = true) → W p l e R s m args below meth c H locs k n Q (F0 m pc' als vst') → W p l e R s m args below meth c H locs k n Q (F0 m pc als vst)) : x_Ok ms Z own nm cc nL rt hh pc o := by
  intro d fn hfn E al0 r p l e R s m args below meth c Q hC cont ih ls st w k n h
  obtain ⟨pc', st', h1, h2⟩ := hstep fn cont ls st w k n r h
  have g := ih _ _ _ _ _ _ h1
  obtain ⟨hx, hb, -, ho, hts, -, -, -, -, -, -, -, hF, -⟩ := hC
  refine ⟨g.1, g.2.1, fun ws H locs als lv vst hW hal hS hl hL hV => ?_⟩
  obtain ⟨vst', h3, h4⟩ := h2 E (x_al ws) vst hF hV
  exact h4 p l e R s m args below meth c H locs k n Q als hx hb ho hts (g.2.2 ws H locs als lv vst' hW hal hS hl hL h3)
/-- a constant -/
noncomputable def xo_push (v : xV) (nx : Nat) : xO := fun _ c ls st w k n => c nx ls (v :: st) w k n
theorem xs_iconst {a : Int} {z : Nat} (hd : decode cc pc = .ok (.iconst a, 1)) (hv : Int32.ofInt a = nI z) : x_Ok ms Z own nm cc nL rt hh pc (xo_push (2, z) (pc + 1)) :=
  x_lift fun fn cont ls st w k n r h => ⟨_, _, h, fun E al vst hF hV => ⟨.int (nI z) :: vst, ⟨rfl, hV⟩, fun p l e R s m args below meth c H locs k n Q als hx hb ho hts kk => lv_iconst hx hb hd hv kk⟩⟩
theorem xs_bipush {a : Int} {z : Nat} (hd : decode cc pc = .ok (.bipush a, 2)) (hv : (Int8.ofInt a).toInt32 = nI z) : x_Ok ms Z own nm cc nL rt hh pc (xo_push (2, z) (pc + 2)) :=
  x_lift fun fn cont ls st w k n r h => ⟨_, _, h, fun E al vst hF hV => ⟨.int (nI z) :: vst, ⟨rfl, hV⟩, fun p l e R s m args below meth c H locs k n Q als hx hb ho hts kk => lv_bipush hx hb hd hv kk⟩⟩
theorem xs_sipush {a : Int} {z : Nat} (hd : decode cc pc = .ok (.sipush a, 3)) (hv : (Int16.ofInt a).toInt32 = nI z) : x_Ok ms Z own nm cc nL rt hh pc (xo_push (2, z) (pc + 3)) :=
  x_lift fun fn cont ls st w k n r h => ⟨_, _, h, fun E al vst hF hV => ⟨.int (nI z) :: vst, ⟨rfl, hV⟩, fun p l e R s m args below meth c H locs k n Q als hx hb ho hts kk => lv_sipush hx hb hd hv kk⟩⟩
theorem xs_lconst {a : Fin 2} {z : Nat} (hd : decode cc pc = .ok (.lconst a, 1)) (hv : Int64.ofNat (a : Nat) = lN z) : x_Ok ms Z own nm cc nL rt hh pc (xo_push (3, z) (pc + 1)) :=
  x_lift fun fn cont ls st w k n r h => ⟨_, _, h, fun E al vst hF hV => ⟨.long (lN z) :: vst, ⟨rfl, hV⟩, fun p l e R s m args below meth c H locs k n Q als hx hb ho hts kk => lv_lconst hx hb hd hv kk⟩⟩
theorem xs_null (hd : decode cc pc = .ok (.aconst_null, 1)) : x_Ok ms Z own nm cc nL rt hh pc (xo_push (0, 0) (pc + 1)) :=
  x_lift fun fn cont ls st w k n r h => ⟨_, _, h, fun E al vst hF hV => ⟨.null :: vst, ⟨rfl, hV⟩, fun p l e R s m args below meth c H locs k n Q als hx hb ho hts kk => lv_null hx hb hd kk⟩⟩
theorem xs_fconst (hd : decode cc pc = .ok (.fconst 0, 1)) : x_Ok ms Z own nm cc nL rt hh pc (xo_push (6, 0) (pc + 1)) :=
  x_lift fun fn cont ls st w k n r h => ⟨_, _, h, fun E al vst hF hV => ⟨.float FP.fconst0 :: vst, ⟨rfl, hV⟩, fun p l e R s m args below meth c H locs k n Q als hx hb ho hts kk => lv_fconst0 hx hb hd kk⟩⟩
theorem xs_dconst (hd : decode cc pc = .ok (.dconst 0, 1)) : x_Ok ms Z own nm cc nL rt hh pc (xo_push (7, 0) (pc + 1)) :=
  x_lift fun fn cont ls st w k n r h => ⟨_, _, h, fun E al vst hF hV => ⟨.double FP.dconst0 :: vst, ⟨rfl, hV⟩, fun p l e R s m args below meth c H locs k n Q als hx hb ho hts kk => lv_dconst0 hx hb hd kk⟩⟩
theorem xs_ldc2 {i z : Nat} {v : Int64} (hw : Cond.constantLong own i v ∈ xTb) (hv : v = lN z) (hd : decode cc pc = .ok (.ldc2_w i, 3)) : x_Ok ms Z own nm cc nL rt hh pc (xo_push (3, z) (pc + 3)) :=
  x_lift fun fn cont ls st w k n r h => ⟨_, _, h, fun E al vst hF hV => ⟨.long (lN z) :: vst, ⟨rfl, hV⟩, fun p l e R s m args below meth c H locs k n Q als hx hb ho hts kk => lv_ldc2 hx hb ho (hts _ hw) hd (by rw [hv]; exact kk)⟩⟩
/-- what is known of two ints, some of them named -/
noncomputable def x_fl {β : Type} (P : xP) (o : Nat) (x y : xV) (kk : xV → Option β) : Option β := List.rec (motive := fun _ => Option β) none (fun q _ ih => match q with
  | ((o2, x2, y2), v) => match Nat.beq o o2 && (Nat.beq x.1 x2.1 && Nat.beq x.2 x2.2) && (Nat.beq y.1 y2.1 && Nat.beq y.2 y2.2) with
    | true => kk v
    | false => ih) P
theorem x_fl_some {β : Type} {P : xP} {o : Nat} {x y : xV} {kk : xV → Option β} {r : β} (h : x_fl P o x y kk = some r) : ∃ v, ((o, x, y), v) ∈ P ∧ kk v = some r := by
  induction P with
  | nil => cases h
  | cons q t ih =>
    obtain ⟨⟨o2, x2, y2⟩, v⟩ := q
    have h' : (match Nat.beq o o2 && (Nat.beq x.1 x2.1 && Nat.beq x.2 x2.2) && (Nat.beq y.1 y2.1 && Nat.beq y.2 y2.2) with
      | true => kk v
      | false => x_fl t o x y kk) = some r := h
    cases hb : Nat.beq o o2 && (Nat.beq x.1 x2.1 && Nat.beq x.2 x2.2) && (Nat.beq y.1 y2.1 && Nat.beq y.2 y2.2) with
    | false =>
      rw [hb] at h'
      obtain ⟨v2, h1, h2⟩ := ih h'
      exact ⟨v2, List.mem_cons_of_mem _ h1, h2⟩
    | true =>
      rw [hb] at h'
      simp only [Bool.and_eq_true] at hb
      obtain ⟨⟨h1, h2, h3⟩, h4, h5⟩ := hb
      have e1 := Nat.eq_of_beq_eq_true h1
      have e2 : x = x2 := Prod.ext (Nat.eq_of_beq_eq_true h2) (Nat.eq_of_beq_eq_true h3)
      have e3 : y = y2 := Prod.ext (Nat.eq_of_beq_eq_true h4) (Nat.eq_of_beq_eq_true h5)
      subst e1; subst e2; subst e3
      exact ⟨v, List.mem_cons_self, h'⟩
theorem x_ri_of {E : xE} {al : List Nat} {v : xV} {V : Value} (hi : x_isI v = true) (h : x_rv E al v V) : V = .int (x_ri E.2.2.2.1 v) := by
  obtain ⟨t, n⟩ := v
  simp only [x_isI, Bool.or_eq_true] at hi
  rcases hi with hi | hi
  · have e : t = 2 := Nat.eq_of_beq_eq_true hi
    subst e
    exact h
  · have e : t = 4 := Nat.eq_of_beq_eq_true hi
    subst e
    exact h
theorem x_rv_ri {E : xE} {al : List Nat} {v : xV} (hi : x_isI v = true) : x_rv E al v (.int (x_ri E.2.2.2.1 v)) := by
  obtain ⟨t, n⟩ := v
  simp only [x_isI, Bool.or_eq_true] at hi
  rcases hi with hi | hi
  · have e : t = 2 := Nat.eq_of_beq_eq_true hi
    subst e
    exact rfl
  · have e : t = 4 := Nat.eq_of_beq_eq_true hi
    subst e
    exact rfl
/-- two ints' result -/
noncomputable def x_ii {β : Type} (P : xP) (o : Nat) (f : Int32 → Int32 → Int32) (x y : xV) (kk : xV → Option β) : Option β := match Nat.beq x.1 2 && Nat.beq y.1 2 with
  | true => x_fn (f (nI x.2) (nI y.2)).toUInt32.toNat fun z => kk (2, z)
  | false => x_fl P o x y kk
theorem x_ii_some {β : Type} {P : xP} {o : Nat} {f : Int32 → Int32 → Int32} {x y : xV} {kk : xV → Option β} {r : β} (hsub : ∀ q ∈ P, q ∈ Z.2.2.2.2.2.2) (ho : P = [] ∨ x_fop o = f) (h : x_ii P o f x y kk = some r) : ∃ z, kk z = some r ∧ ∀ (E : xE) (al : List Nat) (X Y : Value), x_FOK E Z.2.2.2.2.2.2 → x_rv E al x X → x_rv E al y Y → ∃ a b : Int32, X = .int a ∧ Y = .int b ∧ x_rv E al z (.int (f a b)) := by
  unfold x_ii at h
  cases hb : Nat.beq x.1 2 && Nat.beq y.1 2 with
  | true =>
    rw [hb] at h
    simp only [Bool.and_eq_true] at hb
    obtain ⟨tx, a⟩ := x
    obtain ⟨ty, b⟩ := y
    have e1 := Nat.eq_of_beq_eq_true hb.1
    have e2 := Nat.eq_of_beq_eq_true hb.2
    dsimp only at e1 e2
    subst e1; subst e2
    dsimp only at h
    rw [x_fn_eq] at h
    refine ⟨_, h, fun E al X Y hF hX hY => ⟨nI a, nI b, hX, hY, ?_⟩⟩
    show Value.int (f (nI a) (nI b)) = .int (nI _)
    rw [x_nI]
  | false =>
    rw [hb] at h
    obtain ⟨v, h1, h2⟩ := x_fl_some h
    refine ⟨v, h2, fun E al X Y hF hX hY => ?_⟩
    obtain ⟨g1, g2, g3, g4⟩ := hF _ (hsub _ h1)
    rcases ho with ho | ho
    · subst ho
      cases h1
    refine ⟨_, _, x_ri_of g1 hX, x_ri_of g2 hY, ?_⟩
    rw [← ho, g4]
    exact x_rv_ri g3
/-- two ints' test -/
noncomputable def x_ib {β : Type} (P : xP) (o : Nat) (f : Int32 → Int32 → Bool) (x y : xV) (kk : Bool → Option β) : Option β := match Nat.beq x.1 2 && Nat.beq y.1 2 with
  | true => kk (f (nI x.2) (nI y.2))
  | false => x_fl P o x y fun v => match v with
    | (2, 0) => kk false
    | (2, 1) => kk true
    | _ => none
theorem x_ib_some {β : Type} {P : xP} {o : Nat} {f : Int32 → Int32 → Bool} {x y : xV} {kk : Bool → Option β} {r : β} (hsub : ∀ q ∈ P, q ∈ Z.2.2.2.2.2.2) (ho : P = [] ∨ x_fop o = fun a b => cond (f a b) 1 0) (h : x_ib P o f x y kk = some r) : ∃ z, kk z = some r ∧ ∀ (E : xE) (al : List Nat) (X Y : Value), x_FOK E Z.2.2.2.2.2.2 → x_rv E al x X → x_rv E al y Y → ∃ a b : Int32, X = .int a ∧ Y = .int b ∧ z = f a b := by
  unfold x_ib at h
  cases hb : Nat.beq x.1 2 && Nat.beq y.1 2 with
  | true =>
    rw [hb] at h
    simp only [Bool.and_eq_true] at hb
    obtain ⟨tx, a⟩ := x
    obtain ⟨ty, b⟩ := y
    have e1 := Nat.eq_of_beq_eq_true hb.1
    have e2 := Nat.eq_of_beq_eq_true hb.2
    dsimp only at e1 e2
    subst e1; subst e2
    exact ⟨_, h, fun E al X Y hF hX hY => ⟨nI a, nI b, hX, hY, rfl⟩⟩
  | false =>
    rw [hb] at h
    obtain ⟨v, h1, h2⟩ := x_fl_some h
    have key : ∀ (E : xE) (al : List Nat) (X Y : Value), x_FOK E Z.2.2.2.2.2.2 → x_rv E al x X → x_rv E al y Y → ∃ a b : Int32, X = .int a ∧ Y = .int b ∧ cond (f a b) (1 : Int32) 0 = x_ri E.2.2.2.1 v := by
      intro E al X Y hF hX hY
      obtain ⟨g1, g2, g3, g4⟩ := hF _ (hsub _ h1)
      rcases ho with ho | ho
      · subst ho
        cases h1
      refine ⟨_, _, x_ri_of g1 hX, x_ri_of g2 hY, ?_⟩
      rw [← g4, ho]
    split at h2
    · refine ⟨false, h2, fun E al X Y hF hX hY => ?_⟩
      obtain ⟨a, b, h3, h4, h5⟩ := key E al X Y hF hX hY
      refine ⟨a, b, h3, h4, ?_⟩
      cases hf : f a b with
      | false => rfl
      | true => rw [hf] at h5; exact absurd h5 (by show ¬ ((1 : Int32) = nI 0); decide)
    · refine ⟨true, h2, fun E al X Y hF hX hY => ?_⟩
      obtain ⟨a, b, h3, h4, h5⟩ := key E al X Y hF hX hY
      refine ⟨a, b, h3, h4, ?_⟩
      cases hf : f a b with
      | true => rfl
      | false => rw [hf] at h5; exact absurd h5 (by show ¬ ((0 : Int32) = nI 1); decide)
    · cases h2
/-- an operation on two ints -/
noncomputable def xo_i2 (P : xP) (o : Nat) (f : Int32 → Int32 → Int32) (nx : Nat) : xO := fun _ c ls st w k n => x_pop st fun y t => x_pop t fun x t => x_ii P o f x y fun z => c nx ls (z :: t) w k n
theorem xs_i2 {P : xP} {o : Nat} {f : Int32 → Int32 → Int32} (hsub : ∀ q ∈ P, q ∈ Z.2.2.2.2.2.2) (ho : P = [] ∨ x_fop o = f) (row : ∀ (p : Program) (l : Launch) (e : Env) (R : Room) (s : State) (m : MethodId) (args : Array Value) (below : List Frame) (meth : Method) (c : Code) (H : Heap) (locs : List Loc) (k n : Nat) (Q : State → Prop) (als : Array Slot) (x y : Int32) (rest : List Value), p.tables.exec = Jvm.exec → c.code = cc → W p l e R s m args below meth c H locs k n Q (F0 m (pc + 1) als (.int (f x y) :: rest)) → W p l e R s m args below meth c H locs k n Q (F0 m pc als (.int y :: .int x :: rest))) : x_Ok ms Z own nm cc nL rt hh pc (xo_i2 P o f (pc + 1)) :=
  x_lift fun fn cont ls st w k n r h => by
    replace h := x_pop_some h
    obtain ⟨y, t, rfl, h⟩ := h
    replace h := x_pop_some h
    obtain ⟨x, t, rfl, h⟩ := h
    obtain ⟨z, h1, h2⟩ := x_ii_some (Z := Z) hsub ho h
    refine ⟨_, _, h1, fun E al vst hF hV => ?_⟩
    replace hV := hV.cons
    obtain ⟨Y, vst, rfl, hY, hV⟩ := hV
    replace hV := hV.cons
    obtain ⟨X, vst, rfl, hX, hV⟩ := hV
    obtain ⟨a, b, rfl, rfl, h3⟩ := h2 E al X Y hF hX hY
    exact ⟨.int (f a b) :: vst, ⟨h3, hV⟩, fun p l e R s m args below meth c H locs k n Q als hx hb ho hts kk => row p l e R s m args below meth c H locs k n Q als a b vst hx hb kk⟩
theorem xs_iadd (hd : decode cc pc = .ok (.iadd, 1)) : x_Ok ms Z own nm cc nL rt hh pc (xo_i2 [] 99 (· + ·) (pc + 1)) := xs_i2 (fun q h => nomatch h) (Or.inl rfl) fun p l e R s m args below meth c H locs k n Q als x y rest hx hb kk => lv_iadd hx hb hd kk
theorem xs_isub (hd : decode cc pc = .ok (.isub, 1)) : x_Ok ms Z own nm cc nL rt hh pc (xo_i2 [] 99 (· - ·) (pc + 1)) := xs_i2 (fun q h => nomatch h) (Or.inl rfl) fun p l e R s m args below meth c H locs k n Q als x y rest hx hb kk => lv_isub hx hb hd kk
theorem xs_imul (hd : decode cc pc = .ok (.imul, 1)) : x_Ok ms Z own nm cc nL rt hh pc (xo_i2 [] 99 (· * ·) (pc + 1)) := xs_i2 (fun q h => nomatch h) (Or.inl rfl) fun p l e R s m args below meth c H locs k n Q als x y rest hx hb kk => lv_imul hx hb hd kk
theorem xs_iand {P : xP} (hsub : ∀ q ∈ P, q ∈ Z.2.2.2.2.2.2) (hd : decode cc pc = .ok (.iand, 1)) : x_Ok ms Z own nm cc nL rt hh pc (xo_i2 P 0 (· &&& ·) (pc + 1)) := xs_i2 hsub (Or.inr rfl) fun p l e R s m args below meth c H locs k n Q als x y rest hx hb kk => lv_iand hx hb hd kk
theorem xs_ishr (hd : decode cc pc = .ok (.ishr, 1)) : x_Ok ms Z own nm cc nL rt hh pc (xo_i2 [] 99 (fun x y => x >>> (y &&& 31)) (pc + 1)) := xs_i2 (fun q h => nomatch h) (Or.inl rfl) fun p l e R s m args below meth c H locs k n Q als x y rest hx hb kk => lv_ishr hx hb hd kk
theorem xs_iushr (hd : decode cc pc = .ok (.iushr, 1)) : x_Ok ms Z own nm cc nL rt hh pc (xo_i2 [] 99 (fun x y => (x.toUInt32 >>> (y.toUInt32 &&& Int32.toUInt32 31)).toInt32) (pc + 1)) := xs_i2 (fun q h => nomatch h) (Or.inl rfl) fun p l e R s m args below meth c H locs k n Q als x y rest hx hb kk => lv_iushr hx hb hd rfl kk
/-- division: the divisor isn't 0 -/
noncomputable def xo_idiv (nx : Nat) : xO := fun _ c ls st w k n => x_pop st fun y t => x_pop t fun x t => x_tag 2 y fun b => x_tag 2 x fun a => x_if (!decide (nI b = 0)) (x_fn (nI a / nI b).toUInt32.toNat fun z => c nx ls ((2, z) :: t) w k n)
theorem xs_idiv (hd : decode cc pc = .ok (.idiv, 1)) : x_Ok ms Z own nm cc nL rt hh pc (xo_idiv (pc + 1)) :=
  x_lift fun fn cont ls st w k n r h => by
    replace h := x_pop_some h
    obtain ⟨y, t, rfl, h⟩ := h
    replace h := x_pop_some h
    obtain ⟨x, t, rfl, h⟩ := h
    replace h := x_tag_some h
    obtain ⟨b, rfl, h⟩ := h
    replace h := x_tag_some h
    obtain ⟨a, rfl, h⟩ := h
    replace h := x_if_some h
    obtain ⟨h0, h⟩ := h
    rw [x_fn_eq] at h
    refine ⟨_, _, h, fun E al vst hF hV => ?_⟩
    replace hV := hV.cons
    obtain ⟨Y, vst, rfl, hY, hV⟩ := hV
    replace hV := hV.cons
    obtain ⟨X, vst, rfl, hX, hV⟩ := hV
    cases hX
    cases hY
    refine ⟨.int (nI a / nI b) :: vst, ⟨by show Value.int _ = .int (nI _); rw [x_nI], hV⟩, fun p l e R s m args below meth c H locs k n Q als hx hb ho hts kk => lv_idiv hx hb hd (by simpa using h0) kk⟩
/-- an operation on one int -/
noncomputable def xo_i1 (P : xP) (o : Nat) (f : Int32 → Int32) (nx : Nat) : xO := fun _ c ls st w k n => x_pop st fun x t => x_ii P o (fun a _ => f a) x (2, 0) fun z => c nx ls (z :: t) w k n
theorem xs_i1 {P : xP} {o : Nat} {f : Int32 → Int32} (hsub : ∀ q ∈ P, q ∈ Z.2.2.2.2.2.2) (ho : P = [] ∨ x_fop o = fun a _ => f a) (row : ∀ (p : Program) (l : Launch) (e : Env) (R : Room) (s : State) (m : MethodId) (args : Array Value) (below : List Frame) (meth : Method) (c : Code) (H : Heap) (locs : List Loc) (k n : Nat) (Q : State → Prop) (als : Array Slot) (x : Int32) (rest : List Value), p.tables.exec = Jvm.exec → c.code = cc → W p l e R s m args below meth c H locs k n Q (F0 m (pc + 1) als (.int (f x) :: rest)) → W p l e R s m args below meth c H locs k n Q (F0 m pc als (.int x :: rest))) : x_Ok ms Z own nm cc nL rt hh pc (xo_i1 P o f (pc + 1)) :=
  x_lift fun fn cont ls st w k n r h => by
    replace h := x_pop_some h
    obtain ⟨x, t, rfl, h⟩ := h
    obtain ⟨z, h1, h2⟩ := x_ii_some (Z := Z) hsub ho h
    refine ⟨_, _, h1, fun E al vst hF hV => ?_⟩
    replace hV := hV.cons
    obtain ⟨X, vst, rfl, hX, hV⟩ := hV
    obtain ⟨a, b, rfl, -, h3⟩ := h2 E al X (.int 0) hF hX rfl
    exact ⟨.int (f a) :: vst, ⟨h3, hV⟩, fun p l e R s m args below meth c H locs k n Q als hx hb ho hts kk => row p l e R s m args below meth c H locs k n Q als a vst hx hb kk⟩
theorem xs_ineg (hd : decode cc pc = .ok (.ineg, 1)) : x_Ok ms Z own nm cc nL rt hh pc (xo_i1 [] 99 (fun x => -x) (pc + 1)) := xs_i1 (fun q h => nomatch h) (Or.inl rfl) fun p l e R s m args below meth c H locs k n Q als x rest hx hb kk => lv_ineg hx hb hd kk
theorem xs_i2c {P : xP} (hsub : ∀ q ∈ P, q ∈ Z.2.2.2.2.2.2) (hd : decode cc pc = .ok (.i2c, 1)) : x_Ok ms Z own nm cc nL rt hh pc (xo_i1 P 1 (fun x => (x.toUInt32 % 65536).toInt32) (pc + 1)) := xs_i1 hsub (Or.inr rfl) fun p l e R s m args below meth c H locs k n Q als x rest hx hb kk => lv_i2c hx hb hd rfl kk
/-- an operation on two longs -/
noncomputable def xo_l2 (f : Int64 → Int64 → Int64) (nx : Nat) : xO := fun _ c ls st w k n => x_pop st fun y t => x_pop t fun x t => x_tag 3 y fun b => x_tag 3 x fun a => x_fn (f (lN a) (lN b)).toUInt64.toNat fun z => c nx ls ((3, z) :: t) w k n
theorem xs_l2 {f : Int64 → Int64 → Int64} (row : ∀ (p : Program) (l : Launch) (e : Env) (R : Room) (s : State) (m : MethodId) (args : Array Value) (below : List Frame) (meth : Method) (c : Code) (H : Heap) (locs : List Loc) (k n : Nat) (Q : State → Prop) (als : Array Slot) (x y : Int64) (rest : List Value), p.tables.exec = Jvm.exec → c.code = cc → W p l e R s m args below meth c H locs k n Q (F0 m (pc + 1) als (.long (f x y) :: rest)) → W p l e R s m args below meth c H locs k n Q (F0 m pc als (.long y :: .long x :: rest))) : x_Ok ms Z own nm cc nL rt hh pc (xo_l2 f (pc + 1)) :=
  x_lift fun fn cont ls st w k n r h => by
    replace h := x_pop_some h
    obtain ⟨y, t, rfl, h⟩ := h
    replace h := x_pop_some h
    obtain ⟨x, t, rfl, h⟩ := h
    replace h := x_tag_some h
    obtain ⟨b, rfl, h⟩ := h
    replace h := x_tag_some h
    obtain ⟨a, rfl, h⟩ := h
    rw [x_fn_eq] at h
    refine ⟨_, _, h, fun E al vst hF hV => ?_⟩
    replace hV := hV.cons
    obtain ⟨Y, vst, rfl, hY, hV⟩ := hV
    replace hV := hV.cons
    obtain ⟨X, vst, rfl, hX, hV⟩ := hV
    cases hX
    cases hY
    exact ⟨.long (f (lN a) (lN b)) :: vst, ⟨by show Value.long _ = .long (lN _); rw [x_lN], hV⟩, fun p l e R s m args below meth c H locs k n Q als hx hb ho hts kk => row p l e R s m args below meth c H locs k n Q als (lN a) (lN b) vst hx hb kk⟩
theorem xs_ladd (hd : decode cc pc = .ok (.ladd, 1)) : x_Ok ms Z own nm cc nL rt hh pc (xo_l2 (· + ·) (pc + 1)) := xs_l2 fun p l e R s m args below meth c H locs k n Q als x y rest hx hb kk => lv_ladd hx hb hd kk
theorem xs_lmul (hd : decode cc pc = .ok (.lmul, 1)) : x_Ok ms Z own nm cc nL rt hh pc (xo_l2 (· * ·) (pc + 1)) := xs_l2 fun p l e R s m args below meth c H locs k n Q als x y rest hx hb kk => lv_lmul hx hb hd kk
theorem xs_land (hd : decode cc pc = .ok (.land, 1)) : x_Ok ms Z own nm cc nL rt hh pc (xo_l2 (· &&& ·) (pc + 1)) := xs_l2 fun p l e R s m args below meth c H locs k n Q als x y rest hx hb kk => lv_land hx hb hd kk
noncomputable def xo_ldiv (nx : Nat) : xO := fun _ c ls st w k n => x_pop st fun y t => x_pop t fun x t => x_tag 3 y fun b => x_tag 3 x fun a => x_if (!decide (lN b = 0)) (x_fn (lN a / lN b).toUInt64.toNat fun z => c nx ls ((3, z) :: t) w k n)
theorem xs_ldiv (hd : decode cc pc = .ok (.ldiv, 1)) : x_Ok ms Z own nm cc nL rt hh pc (xo_ldiv (pc + 1)) :=
  x_lift fun fn cont ls st w k n r h => by
    replace h := x_pop_some h
    obtain ⟨y, t, rfl, h⟩ := h
    replace h := x_pop_some h
    obtain ⟨x, t, rfl, h⟩ := h
    replace h := x_tag_some h
    obtain ⟨b, rfl, h⟩ := h
    replace h := x_tag_some h
    obtain ⟨a, rfl, h⟩ := h
    replace h := x_if_some h
    obtain ⟨h0, h⟩ := h
    rw [x_fn_eq] at h
    refine ⟨_, _, h, fun E al vst hF hV => ?_⟩
    replace hV := hV.cons
    obtain ⟨Y, vst, rfl, hY, hV⟩ := hV
    replace hV := hV.cons
    obtain ⟨X, vst, rfl, hX, hV⟩ := hV
    cases hX
    cases hY
    exact ⟨.long (lN a / lN b) :: vst, ⟨by show Value.long _ = .long (lN _); rw [x_lN], hV⟩, fun p l e R s m args below meth c H locs k n Q als hx hb ho hts kk => lv_ldiv hx hb hd (by simpa using h0) kk⟩
noncomputable def xo_lcmp (nx : Nat) : xO := fun _ c ls st w k n => x_pop st fun y t => x_pop t fun x t => x_tag 3 y fun b => x_tag 3 x fun a => x_fn (lg_cmp (lN a) (lN b)).toUInt32.toNat fun z => c nx ls ((2, z) :: t) w k n
theorem xs_lcmp (hd : decode cc pc = .ok (.lcmp, 1)) : x_Ok ms Z own nm cc nL rt hh pc (xo_lcmp (pc + 1)) :=
  x_lift fun fn cont ls st w k n r h => by
    replace h := x_pop_some h
    obtain ⟨y, t, rfl, h⟩ := h
    replace h := x_pop_some h
    obtain ⟨x, t, rfl, h⟩ := h
    replace h := x_tag_some h
    obtain ⟨b, rfl, h⟩ := h
    replace h := x_tag_some h
    obtain ⟨a, rfl, h⟩ := h
    rw [x_fn_eq] at h
    refine ⟨_, _, h, fun E al vst hF hV => ?_⟩
    replace hV := hV.cons
    obtain ⟨Y, vst, rfl, hY, hV⟩ := hV
    replace hV := hV.cons
    obtain ⟨X, vst, rfl, hX, hV⟩ := hV
    cases hX
    cases hY
    exact ⟨.int (lg_cmp (lN a) (lN b)) :: vst, ⟨by show Value.int _ = .int (nI _); rw [x_nI], hV⟩, fun p l e R s m args below meth c H locs k n Q als hx hb ho hts kk => W.lcmp hx hb hd kk⟩
noncomputable def xo_i2l (nx : Nat) : xO := fun _ c ls st w k n => x_pop st fun x t => x_tag 2 x fun a => x_fn (nI a).toInt64.toUInt64.toNat fun z => c nx ls ((3, z) :: t) w k n
theorem xs_i2l (hd : decode cc pc = .ok (.i2l, 1)) : x_Ok ms Z own nm cc nL rt hh pc (xo_i2l (pc + 1)) :=
  x_lift fun fn cont ls st w k n r h => by
    replace h := x_pop_some h
    obtain ⟨x, t, rfl, h⟩ := h
    replace h := x_tag_some h
    obtain ⟨a, rfl, h⟩ := h
    rw [x_fn_eq] at h
    refine ⟨_, _, h, fun E al vst hF hV => ?_⟩
    replace hV := hV.cons
    obtain ⟨X, vst, rfl, hX, hV⟩ := hV
    cases hX
    exact ⟨.long (nI a).toInt64 :: vst, ⟨by show Value.long _ = .long (lN _); rw [x_lN], hV⟩, fun p l e R s m args below meth c H locs k n Q als hx hb ho hts kk => lv_i2l hx hb hd rfl kk⟩
/-- branches -/
noncomputable def xo_go (tg : Nat) : xO := fun _ c ls st w k n => c tg ls st w k n
theorem xs_goto {off : Int} {tg : Nat} (hd : decode cc pc = .ok (.goto off, 3)) (ht : (pc : Int) + off = (tg : Int)) : x_Ok ms Z own nm cc nL rt hh pc (xo_go tg) :=
  x_lift fun fn cont ls st w k n r h => ⟨_, _, h, fun E al vst hF hV => ⟨vst, hV, fun p l e R s m args below meth c H locs k n Q als hx hb ho hts kk => lv_goto hx hb hd ht kk⟩⟩
def x_br {β : Type} (b : Bool) (x y : β) : β := match b with
  | true => x
  | false => y
noncomputable def xo_ic (P : xP) (o : Nat) (f : Int32 → Int32 → Bool) (tg nx : Nat) : xO := fun _ c ls st w k n => x_pop st fun y t => x_pop t fun x t => x_ib P o f x y fun b => x_br b (c tg ls t w k n) (c nx ls t w k n)
theorem xs_ic {P : xP} {o : Nat} {f : Int32 → Int32 → Bool} {tg : Nat} (hsub : ∀ q ∈ P, q ∈ Z.2.2.2.2.2.2) (ho : P = [] ∨ x_fop o = fun a b => cond (f a b) 1 0) (row : ∀ (p : Program) (l : Launch) (e : Env) (R : Room) (s : State) (m : MethodId) (args : Array Value) (below : List Frame) (meth : Method) (c : Code) (H : Heap) (locs : List Loc) (k n : Nat) (Q : State → Prop) (als : Array Slot) (x y : Int32) (rest : List Value), p.tables.exec = Jvm.exec → c.code = cc → (f x y = true → W p l e R s m args below meth c H locs k n Q (F0 m tg als rest)) → (f x y = false → W p l e R s m args below meth c H locs k n Q (F0 m (pc + 3) als rest)) → W p l e R s m args below meth c H locs k n Q (F0 m pc als (.int y :: .int x :: rest))) : x_Ok ms Z own nm cc nL rt hh pc (xo_ic P o f tg (pc + 3)) :=
  x_lift fun fn cont ls st w k n r h => by
    replace h := x_pop_some h
    obtain ⟨y, t, rfl, h⟩ := h
    replace h := x_pop_some h
    obtain ⟨x, t, rfl, h⟩ := h
    obtain ⟨z, h1, h2⟩ := x_ib_some (Z := Z) hsub ho h
    cases z with
    | true =>
      refine ⟨tg, t, h1, fun E al vst hF hV => ?_⟩
      replace hV := hV.cons
      obtain ⟨Y, vst, rfl, hY, hV⟩ := hV
      replace hV := hV.cons
      obtain ⟨X, vst, rfl, hX, hV⟩ := hV
      obtain ⟨a, b, rfl, rfl, h3⟩ := h2 E al X Y hF hX hY
      exact ⟨vst, hV, fun p l e R s m args below meth c H locs k n Q als hx hb ho hts kk => row p l e R s m args below meth c H locs k n Q als a b vst hx hb (fun _ => kk) (fun q => by rw [← h3] at q; cases q)⟩
    | false =>
      refine ⟨pc + 3, t, h1, fun E al vst hF hV => ?_⟩
      replace hV := hV.cons
      obtain ⟨Y, vst, rfl, hY, hV⟩ := hV
      replace hV := hV.cons
      obtain ⟨X, vst, rfl, hX, hV⟩ := hV
      obtain ⟨a, b, rfl, rfl, h3⟩ := h2 E al X Y hF hX hY
      exact ⟨vst, hV, fun p l e R s m args below meth c H locs k n Q als hx hb ho hts kk => row p l e R s m args below meth c H locs k n Q als a b vst hx hb (fun q => by rw [← h3] at q; cases q) (fun _ => kk)⟩
def x_ceq (a b : Int32) : Bool := decide (a = b)
def x_cne (a b : Int32) : Bool := !decide (a = b)
def x_clt (a b : Int32) : Bool := decide (a < b)
def x_cge (a b : Int32) : Bool := decide (b ≤ a)
def x_cgt (a b : Int32) : Bool := decide (b < a)
def x_cle (a b : Int32) : Bool := decide (a ≤ b)
theorem xs_icmp_eq {P : xP} {off : Int} {tg : Nat} (hsub : ∀ q ∈ P, q ∈ Z.2.2.2.2.2.2) (hd : decode cc pc = .ok (.if_icmp .eq off, 3)) (ht : (pc : Int) + off = (tg : Int)) : x_Ok ms Z own nm cc nL rt hh pc (xo_ic P 2 x_ceq tg (pc + 3)) := xs_ic hsub (Or.inr rfl) fun p l e R s m args below meth c H locs k n Q als x y rest hx hb kt kf => lv_icmp_eq hx hb hd ht (fun q => kt (by simp [x_ceq, q])) (fun q => kf (by simp [x_ceq, q]))
theorem xs_icmp_ne {P : xP} {off : Int} {tg : Nat} (hsub : ∀ q ∈ P, q ∈ Z.2.2.2.2.2.2) (hd : decode cc pc = .ok (.if_icmp .ne off, 3)) (ht : (pc : Int) + off = (tg : Int)) : x_Ok ms Z own nm cc nL rt hh pc (xo_ic P 3 x_cne tg (pc + 3)) := xs_ic hsub (Or.inr rfl) fun p l e R s m args below meth c H locs k n Q als x y rest hx hb kt kf => lv_icmp_ne hx hb hd ht (fun q => kt (by simp [x_cne, q])) (fun q => kf (by simp [x_cne, q]))
theorem xs_icmp_lt {P : xP} {off : Int} {tg : Nat} (hsub : ∀ q ∈ P, q ∈ Z.2.2.2.2.2.2) (hd : decode cc pc = .ok (.if_icmp .lt off, 3)) (ht : (pc : Int) + off = (tg : Int)) : x_Ok ms Z own nm cc nL rt hh pc (xo_ic P 4 x_clt tg (pc + 3)) := xs_ic hsub (Or.inr rfl) fun p l e R s m args below meth c H locs k n Q als x y rest hx hb kt kf => lv_icmp_lt hx hb hd ht (fun q => kt (decide_eq_true q)) (fun q => kf (decide_eq_false q))
theorem xs_icmp_ge {P : xP} {off : Int} {tg : Nat} (hsub : ∀ q ∈ P, q ∈ Z.2.2.2.2.2.2) (hd : decode cc pc = .ok (.if_icmp .ge off, 3)) (ht : (pc : Int) + off = (tg : Int)) : x_Ok ms Z own nm cc nL rt hh pc (xo_ic P 5 x_cge tg (pc + 3)) := xs_ic hsub (Or.inr rfl) fun p l e R s m args below meth c H locs k n Q als x y rest hx hb kt kf => lv_icmp_ge hx hb hd ht (fun q => kt (decide_eq_true q)) (fun q => kf (decide_eq_false q))
theorem xs_icmp_gt {P : xP} {off : Int} {tg : Nat} (hsub : ∀ q ∈ P, q ∈ Z.2.2.2.2.2.2) (hd : decode cc pc = .ok (.if_icmp .gt off, 3)) (ht : (pc : Int) + off = (tg : Int)) : x_Ok ms Z own nm cc nL rt hh pc (xo_ic P 6 x_cgt tg (pc + 3)) := xs_ic hsub (Or.inr rfl) fun p l e R s m args below meth c H locs k n Q als x y rest hx hb kt kf => lv_icmp_gt hx hb hd ht (fun q => kt (decide_eq_true q)) (fun q => kf (decide_eq_false q))
theorem xs_icmp_le {P : xP} {off : Int} {tg : Nat} (hsub : ∀ q ∈ P, q ∈ Z.2.2.2.2.2.2) (hd : decode cc pc = .ok (.if_icmp .le off, 3)) (ht : (pc : Int) + off = (tg : Int)) : x_Ok ms Z own nm cc nL rt hh pc (xo_ic P 7 x_cle tg (pc + 3)) := xs_ic hsub (Or.inr rfl) fun p l e R s m args below meth c H locs k n Q als x y rest hx hb kt kf => lv_icmp_le hx hb hd ht (fun q => kt (decide_eq_true q)) (fun q => kf (decide_eq_false q))
end XOPS
end
section
/-! BRANCHES ON ONE VALUE, SWITCHES, LOCALS -/
section XOPT
variable {ms : List xM} {Z : xD} {own nm : String} {cc : ByteArray} {nL : Nat} {rt : Option FieldType} {hh : List (Nat × Nat × Nat × Nat)} {pc : Nat}
noncomputable def xo_if (P : xP) (o : Nat) (f : Int32 → Int32 → Bool) (tg nx : Nat) : xO := fun _ c ls st w k n => x_pop st fun x t => x_ib P o f x (2, 0) fun b => x_br b (c tg ls t w k n) (c nx ls t w k n)
theorem xs_if {P : xP} {o : Nat} {f : Int32 → Int32 → Bool} {tg : Nat} (hsub : ∀ q ∈ P, q ∈ Z.2.2.2.2.2.2) (ho : P = [] ∨ x_fop o = fun a b => cond (f a b) 1 0) (row : ∀ (p : Program) (l : Launch) (e : Env) (R : Room) (s : State) (m : MethodId) (args : Array Value) (below : List Frame) (meth : Method) (c : Code) (H : Heap) (locs : List Loc) (k n : Nat) (Q : State → Prop) (als : Array Slot) (x : Int32) (rest : List Value), p.tables.exec = Jvm.exec → c.code = cc → (f x 0 = true → W p l e R s m args below meth c H locs k n Q (F0 m tg als rest)) → (f x 0 = false → W p l e R s m args below meth c H locs k n Q (F0 m (pc + 3) als rest)) → W p l e R s m args below meth c H locs k n Q (F0 m pc als (.int x :: rest))) : x_Ok ms Z own nm cc nL rt hh pc (xo_if P o f tg (pc + 3)) :=
  x_lift fun fn cont ls st w k n r h => by
    replace h := x_pop_some h
    obtain ⟨x, t, rfl, h⟩ := h
    obtain ⟨z, h1, h2⟩ := x_ib_some (Z := Z) hsub ho h
    cases z with
    | true =>
      refine ⟨tg, t, h1, fun E al vst hF hV => ?_⟩
      replace hV := hV.cons
      obtain ⟨X, vst, rfl, hX, hV⟩ := hV
      obtain ⟨a, b, rfl, hb0, h3⟩ := h2 E al X (.int 0) hF hX rfl
      cases hb0
      exact ⟨vst, hV, fun p l e R s m args below meth c H locs k n Q als hx hb ho hts kk => row p l e R s m args below meth c H locs k n Q als a vst hx hb (fun _ => kk) (fun q => by rw [← h3] at q; cases q)⟩
    | false =>
      refine ⟨pc + 3, t, h1, fun E al vst hF hV => ?_⟩
      replace hV := hV.cons
      obtain ⟨X, vst, rfl, hX, hV⟩ := hV
      obtain ⟨a, b, rfl, hb0, h3⟩ := h2 E al X (.int 0) hF hX rfl
      cases hb0
      exact ⟨vst, hV, fun p l e R s m args below meth c H locs k n Q als hx hb ho hts kk => row p l e R s m args below meth c H locs k n Q als a vst hx hb (fun q => by rw [← h3] at q; cases q) (fun _ => kk)⟩
theorem xs_if_eq {P : xP} {off : Int} {tg : Nat} (hsub : ∀ q ∈ P, q ∈ Z.2.2.2.2.2.2) (hd : decode cc pc = .ok (.ifCond .eq off, 3)) (ht : (pc : Int) + off = (tg : Int)) : x_Ok ms Z own nm cc nL rt hh pc (xo_if P 2 x_ceq tg (pc + 3)) := xs_if hsub (Or.inr rfl) fun p l e R s m args below meth c H locs k n Q als x rest hx hb kt kf => lv_if_eq hx hb hd ht (fun q => kt (by simp [x_ceq, q])) (fun q => kf (by simp [x_ceq, q]))
theorem xs_if_ne {P : xP} {off : Int} {tg : Nat} (hsub : ∀ q ∈ P, q ∈ Z.2.2.2.2.2.2) (hd : decode cc pc = .ok (.ifCond .ne off, 3)) (ht : (pc : Int) + off = (tg : Int)) : x_Ok ms Z own nm cc nL rt hh pc (xo_if P 3 x_cne tg (pc + 3)) := xs_if hsub (Or.inr rfl) fun p l e R s m args below meth c H locs k n Q als x rest hx hb kt kf => lv_if_ne hx hb hd ht (fun q => kt (by simp [x_cne, q])) (fun q => kf (by simp [x_cne, q]))
theorem xs_if_lt {P : xP} {off : Int} {tg : Nat} (hsub : ∀ q ∈ P, q ∈ Z.2.2.2.2.2.2) (hd : decode cc pc = .ok (.ifCond .lt off, 3)) (ht : (pc : Int) + off = (tg : Int)) : x_Ok ms Z own nm cc nL rt hh pc (xo_if P 4 x_clt tg (pc + 3)) := xs_if hsub (Or.inr rfl) fun p l e R s m args below meth c H locs k n Q als x rest hx hb kt kf => lv_if_lt hx hb hd ht (fun q => kt (decide_eq_true q)) (fun q => kf (decide_eq_false q))
theorem xs_if_ge {P : xP} {off : Int} {tg : Nat} (hsub : ∀ q ∈ P, q ∈ Z.2.2.2.2.2.2) (hd : decode cc pc = .ok (.ifCond .ge off, 3)) (ht : (pc : Int) + off = (tg : Int)) : x_Ok ms Z own nm cc nL rt hh pc (xo_if P 5 x_cge tg (pc + 3)) := xs_if hsub (Or.inr rfl) fun p l e R s m args below meth c H locs k n Q als x rest hx hb kt kf => lv_if_ge hx hb hd ht (fun q => kt (decide_eq_true q)) (fun q => kf (decide_eq_false q))
theorem xs_if_gt {P : xP} {off : Int} {tg : Nat} (hsub : ∀ q ∈ P, q ∈ Z.2.2.2.2.2.2) (hd : decode cc pc = .ok (.ifCond .gt off, 3)) (ht : (pc : Int) + off = (tg : Int)) : x_Ok ms Z own nm cc nL rt hh pc (xo_if P 6 x_cgt tg (pc + 3)) := xs_if hsub (Or.inr rfl) fun p l e R s m args below meth c H locs k n Q als x rest hx hb kt kf => lv_if_gt hx hb hd ht (fun q => kt (decide_eq_true q)) (fun q => kf (decide_eq_false q))
theorem xs_if_le {P : xP} {off : Int} {tg : Nat} (hsub : ∀ q ∈ P, q ∈ Z.2.2.2.2.2.2) (hd : decode cc pc = .ok (.ifCond .le off, 3)) (ht : (pc : Int) + off = (tg : Int)) : x_Ok ms Z own nm cc nL rt hh pc (xo_if P 7 x_cle tg (pc + 3)) := xs_if hsub (Or.inr rfl) fun p l e R s m args below meth c H locs k n Q als x rest hx hb kt kf => lv_if_le hx hb hd ht (fun q => kt (decide_eq_true q)) (fun q => kf (decide_eq_false q))
/-- a reference, not null -/
def x_isR (v : xV) : Bool := Nat.beq v.1 1 || (Nat.beq v.1 5 || Nat.beq v.1 8)
theorem x_isR_ref {E : xE} {al : List Nat} {v : xV} {V : Value} (hi : x_isR v = true) (h : x_rv E al v V) : ∃ a, V = .ref a := by
  obtain ⟨t, n⟩ := v
  simp only [x_isR, Bool.or_eq_true] at hi
  rcases hi with hi | hi | hi
  · have e : t = 1 := Nat.eq_of_beq_eq_true hi
    subst e
    obtain ⟨a, -, h⟩ := h
    exact ⟨a, h⟩
  · have e : t = 5 := Nat.eq_of_beq_eq_true hi
    subst e
    exact ⟨_, h⟩
  · have e : t = 8 := Nat.eq_of_beq_eq_true hi
    subst e
    exact h
noncomputable def xo_nul (tn tr : Nat) : xO := fun _ c ls st w k n => x_pop st fun x t => x_br (Nat.beq x.1 0) (c tn ls t w k n) (x_if (x_isR x) (c tr ls t w k n))
theorem xs_nul {tn tr : Nat} (row0 : ∀ (p : Program) (l : Launch) (e : Env) (R : Room) (s : State) (m : MethodId) (args : Array Value) (below : List Frame) (meth : Method) (c : Code) (H : Heap) (locs : List Loc) (k n : Nat) (Q : State → Prop) (als : Array Slot) (rest : List Value), p.tables.exec = Jvm.exec → c.code = cc → W p l e R s m args below meth c H locs k n Q (F0 m tn als rest) → W p l e R s m args below meth c H locs k n Q (F0 m pc als (.null :: rest)))
    (row1 : ∀ (p : Program) (l : Launch) (e : Env) (R : Room) (s : State) (m : MethodId) (args : Array Value) (below : List Frame) (meth : Method) (c : Code) (H : Heap) (locs : List Loc) (k n : Nat) (Q : State → Prop) (als : Array Slot) (a : Nat) (rest : List Value), p.tables.exec = Jvm.exec → c.code = cc → W p l e R s m args below meth c H locs k n Q (F0 m tr als rest) → W p l e R s m args below meth c H locs k n Q (F0 m pc als (.ref a :: rest))) : x_Ok ms Z own nm cc nL rt hh pc (xo_nul tn tr) :=
  x_lift fun fn cont ls st w k n r h => by
    replace h := x_pop_some h
    obtain ⟨x, t, rfl, h⟩ := h
    cases hb : Nat.beq x.1 0 with
    | true =>
      rw [hb] at h
      refine ⟨tn, t, h, fun E al vst hF hV => ?_⟩
      replace hV := hV.cons
      obtain ⟨X, vst, rfl, hX, hV⟩ := hV
      obtain ⟨u, q⟩ := x
      have e : u = 0 := Nat.eq_of_beq_eq_true hb
      subst e
      cases hX
      exact ⟨vst, hV, fun p l e R s m args below meth c H locs k n Q als hx hb ho hts kk => row0 p l e R s m args below meth c H locs k n Q als vst hx hb kk⟩
    | false =>
      rw [hb] at h
      replace h := x_if_some h
      obtain ⟨h0, h⟩ := h
      refine ⟨tr, t, h, fun E al vst hF hV => ?_⟩
      replace hV := hV.cons
      obtain ⟨X, vst, rfl, hX, hV⟩ := hV
      obtain ⟨a, rfl⟩ := x_isR_ref h0 hX
      exact ⟨vst, hV, fun p l e R s m args below meth c H locs k n Q als hx hb ho hts kk => row1 p l e R s m args below meth c H locs k n Q als a vst hx hb kk⟩
theorem xs_ifnull {off : Int} {tg : Nat} (hd : decode cc pc = .ok (.ifnull off, 3)) (ht : (pc : Int) + off = (tg : Int)) : x_Ok ms Z own nm cc nL rt hh pc (xo_nul tg (pc + 3)) := xs_nul (fun p l e R s m args below meth c H locs k n Q als rest hx hb kk => lv_ifnullN hx hb hd ht kk) (fun p l e R s m args below meth c H locs k n Q als a rest hx hb kk => lv_ifnull hx hb hd kk)
theorem xs_ifnonnull {off : Int} {tg : Nat} (hd : decode cc pc = .ok (.ifnonnull off, 3)) (ht : (pc : Int) + off = (tg : Int)) : x_Ok ms Z own nm cc nL rt hh pc (xo_nul (pc + 3) tg) := xs_nul (fun p l e R s m args below meth c H locs k n Q als rest hx hb kk => lv_ifnonnullN hx hb hd kk) (fun p l e R s m args below meth c H locs k n Q als a rest hx hb kk => lv_ifnonnull hx hb hd ht kk)
/-- switches: the target out of the offset -/
noncomputable def x_off {β : Type} (pc : Nat) (off : Int) (kk : Nat → Option β) : Option β := x_if (decide (0 ≤ (pc : Int) + off)) (x_fn ((pc : Int) + off).toNat kk)
theorem x_off_some {β : Type} {pc : Nat} {off : Int} {kk : Nat → Option β} {r : β} (h : x_off pc off kk = some r) : ∃ tg : Nat, (pc : Int) + off = (tg : Int) ∧ kk tg = some r := by
  obtain ⟨h1, h2⟩ := x_if_some h
  rw [x_fn_eq] at h2
  exact ⟨_, (Int.toNat_of_nonneg (of_decide_eq_true h1)).symm, h2⟩
noncomputable def xo_tsw (pc : Nat) (dflt lo hi : Int) (offs : List Int) : xO := fun _ c ls st w k n => x_pop st fun x t => x_tag 2 x fun a => x_br (decide ((nI a).toInt < lo) || decide (hi < (nI a).toInt)) (x_off pc dflt fun tg => c tg ls t w k n) (x_nth offs ((nI a).toInt - lo).toNat fun off => x_off pc off fun tg => c tg ls t w k n)
theorem xs_tsw {dflt lo hi : Int} {offs : Array Int} {ol : List Int} {len : Nat} (hd : decode cc pc = .ok (.tableswitch dflt lo hi offs, len)) (ho : offs.toList = ol) : x_Ok ms Z own nm cc nL rt hh pc (xo_tsw pc dflt lo hi ol) :=
  x_lift fun fn cont ls st w k n r h => by
    subst ho
    replace h := x_pop_some h
    obtain ⟨x, t, rfl, h⟩ := h
    replace h := x_tag_some h
    obtain ⟨a, rfl, h⟩ := h
    cases hb : (decide ((nI a).toInt < lo) || decide (hi < (nI a).toInt)) with
    | true =>
      rw [hb] at h
      obtain ⟨tg, h1, h2⟩ := x_off_some h
      refine ⟨tg, t, h2, fun E al vst hF hV => ?_⟩
      replace hV := hV.cons
      obtain ⟨X, vst, rfl, hX, hV⟩ := hV
      cases hX
      exact ⟨vst, hV, fun p l e R s m args below meth c H locs k n Q als hx hc ho hts kk => lv_tableOut hx hc hd (by simpa using hb) h1 kk⟩
    | false =>
      rw [hb] at h
      obtain ⟨off, h0, h⟩ := x_nth_some h
      obtain ⟨tg, h1, h2⟩ := x_off_some h
      refine ⟨tg, t, h2, fun E al vst hF hV => ?_⟩
      replace hV := hV.cons
      obtain ⟨X, vst, rfl, hX, hV⟩ := hV
      cases hX
      simp only [Bool.or_eq_false_iff, decide_eq_false_iff_not] at hb
      exact ⟨vst, hV, fun p l e R s m args below meth c H locs k n Q als hx hc ho hts kk => lv_tableIn hx hc hd hb.1 hb.2 (by rw [← Array.getElem?_toList]; exact h0) h1 kk⟩
noncomputable def xo_lsw (pc : Nat) (dflt : Int) (ps : List (Int × Int)) : xO := fun _ c ls st w k n => x_pop st fun x t => x_tag 2 x fun a => x_off pc (Op.lookupswitch.offset ps dflt (nI a).toInt) fun tg => c tg ls t w k n
theorem xs_lsw {dflt : Int} {ps : Array (Int × Int)} {pl : List (Int × Int)} {len : Nat} (hd : decode cc pc = .ok (.lookupswitch dflt ps, len)) (hp : (ps.toList.zip (ps.toList.drop 1)).all (fun (a, next) => a.1 < next.1) = true) (ho : ps.toList = pl) : x_Ok ms Z own nm cc nL rt hh pc (xo_lsw pc dflt pl) :=
  x_lift fun fn cont ls st w k n r h => by
    subst ho
    replace h := x_pop_some h
    obtain ⟨x, t, rfl, h⟩ := h
    replace h := x_tag_some h
    obtain ⟨a, rfl, h⟩ := h
    obtain ⟨tg, h1, h2⟩ := x_off_some h
    refine ⟨tg, t, h2, fun E al vst hF hV => ?_⟩
    replace hV := hV.cons
    obtain ⟨X, vst, rfl, hX, hV⟩ := hV
    cases hX
    exact ⟨vst, hV, fun p l e R s m args below meth c H locs k n Q als hx hc ho hts kk => lv_lookup hx hc hd hp rfl h1 kk⟩
/-- values of one slot -/
def x_c1 (v : xV) : Bool := !(Nat.beq v.1 3 || Nat.beq v.1 7)
theorem x_c1_cat {E : xE} {al : List Nat} {v : xV} {V : Value} (hi : x_c1 v = true) (h : x_rv E al v V) : V.category = 1 := by
  obtain ⟨t, n⟩ := v
  match t, hi, h with
  | 0, _, h => cases h; rfl
  | 1, _, h => obtain ⟨a, -, rfl⟩ := h; rfl
  | 2, _, h => cases h; rfl
  | 4, _, h => cases h; rfl
  | 5, _, h => cases h; rfl
  | 6, _, h => cases h; rfl
  | 8, _, h => obtain ⟨a, rfl⟩ := h; rfl
  | (t + 9), _, h => exact False.elim h
noncomputable def xo_dup (nx : Nat) : xO := fun _ c ls st w k n => x_pop st fun x t => x_if (x_c1 x) (c nx ls (x :: x :: t) w k n)
theorem xs_dup (hd : decode cc pc = .ok (.dup, 1)) : x_Ok ms Z own nm cc nL rt hh pc (xo_dup (pc + 1)) :=
  x_lift fun fn cont ls st w k n r h => by
    replace h := x_pop_some h
    obtain ⟨x, t, rfl, h⟩ := h
    obtain ⟨h0, h⟩ := x_if_some h
    refine ⟨_, _, h, fun E al vst hF hV => ?_⟩
    replace hV := hV.cons
    obtain ⟨X, vst, rfl, hX, hV⟩ := hV
    exact ⟨X :: X :: vst, ⟨hX, hX, hV⟩, fun p l e R s m args below meth c H locs k n Q als hx hb ho hts kk => lv_dup hx hb hd (x_c1_cat h0 hX) kk⟩
noncomputable def xo_pop (nx : Nat) : xO := fun _ c ls st w k n => x_pop st fun x t => x_if (x_c1 x) (c nx ls t w k n)
theorem xs_pop (hd : decode cc pc = .ok (.pop, 1)) : x_Ok ms Z own nm cc nL rt hh pc (xo_pop (pc + 1)) :=
  x_lift fun fn cont ls st w k n r h => by
    replace h := x_pop_some h
    obtain ⟨x, t, rfl, h⟩ := h
    obtain ⟨h0, h⟩ := x_if_some h
    refine ⟨_, _, h, fun E al vst hF hV => ?_⟩
    replace hV := hV.cons
    obtain ⟨X, vst, rfl, hX, hV⟩ := hV
    exact ⟨vst, hV, fun p l e R s m args below meth c H locs k n Q als hx hb ho hts kk => lv_pop hx hb hd (x_c1_cat h0 hX) kk⟩
noncomputable def xo_dupx1 (nx : Nat) : xO := fun _ c ls st w k n => x_pop st fun x t => x_pop t fun y t => x_if (x_c1 x && x_c1 y) (c nx ls (x :: y :: x :: t) w k n)
theorem xs_dupx1 (hd : decode cc pc = .ok (.dup_x1, 1)) : x_Ok ms Z own nm cc nL rt hh pc (xo_dupx1 (pc + 1)) :=
  x_lift fun fn cont ls st w k n r h => by
    replace h := x_pop_some h
    obtain ⟨x, t, rfl, h⟩ := h
    replace h := x_pop_some h
    obtain ⟨y, t, rfl, h⟩ := h
    obtain ⟨h0, h⟩ := x_if_some h
    simp only [Bool.and_eq_true] at h0
    refine ⟨_, _, h, fun E al vst hF hV => ?_⟩
    replace hV := hV.cons
    obtain ⟨X, vst, rfl, hX, hV⟩ := hV
    replace hV := hV.cons
    obtain ⟨Y, vst, rfl, hY, hV⟩ := hV
    exact ⟨X :: Y :: X :: vst, ⟨hX, hY, hX, hV⟩, fun p l e R s m args below meth c H locs k n Q als hx hb ho hts kk => lv_dup_x1 hx hb hd (x_c1_cat h0.1 hX) (x_c1_cat h0.2 hY) kk⟩
noncomputable def xo_dup2 (nx : Nat) : xO := fun _ c ls st w k n => x_pop st fun x t => x_pop t fun y t => x_if (x_c1 x && x_c1 y) (c nx ls (x :: y :: x :: y :: t) w k n)
theorem xs_dup2 (hd : decode cc pc = .ok (.dup2, 1)) : x_Ok ms Z own nm cc nL rt hh pc (xo_dup2 (pc + 1)) :=
  x_lift fun fn cont ls st w k n r h => by
    replace h := x_pop_some h
    obtain ⟨x, t, rfl, h⟩ := h
    replace h := x_pop_some h
    obtain ⟨y, t, rfl, h⟩ := h
    obtain ⟨h0, h⟩ := x_if_some h
    simp only [Bool.and_eq_true] at h0
    refine ⟨_, _, h, fun E al vst hF hV => ?_⟩
    replace hV := hV.cons
    obtain ⟨X, vst, rfl, hX, hV⟩ := hV
    replace hV := hV.cons
    obtain ⟨Y, vst, rfl, hY, hV⟩ := hV
    exact ⟨X :: Y :: X :: Y :: vst, ⟨hX, hY, hX, hY, hV⟩, fun p l e R s m args below meth c H locs k n Q als hx hb ho hts kk => lv_dup2_11 hx hb hd (x_c1_cat h0.1 hX) (x_c1_cat h0.2 hY) kk⟩
end XOPT
end
section
/-! LOCALS -/
section XLOC
variable {ms : List xM} {Z : xD} {own nm : String} {cc : ByteArray} {nL : Nat} {rt : Option FieldType} {hh : List (Nat × Nat × Nat × Nat)} {pc : Nat}
def x_isA (v : xV) : Bool := Nat.beq v.1 0 || x_isR v
theorem x_isA_of {E : xE} {al : List Nat} {v : xV} {V : Value} (hi : x_isA v = true) (h : x_rv E al v V) : V = .null ∨ ∃ a, V = .ref a := by
  simp only [x_isA, Bool.or_eq_true] at hi
  rcases hi with hi | hi
  · obtain ⟨t, n⟩ := v
    have e : t = 0 := Nat.eq_of_beq_eq_true hi
    subst e
    exact Or.inl h
  · exact Or.inr (x_isR_ref hi h)
def x_isT (t : Nat) (v : xV) : Bool := Nat.beq v.1 t
theorem x_isT_of {t : Nat} {v : xV} (hi : x_isT t v = true) : ∃ n, v = (t, n) := ⟨v.2, Prod.ext (Nat.eq_of_beq_eq_true hi) rfl⟩
theorem x_not9 {E : xE} {al : List Nat} {chk : xV → Bool} (h9 : ∀ n, chk (9, n) = false) {v : xV} (hi : chk v = true) : v.1 ≠ 9 := by
  intro h
  obtain ⟨t, n⟩ := v
  dsimp only at h
  subst h
  rw [h9] at hi
  cases hi
/-- a local onto the stack -/
noncomputable def xo_ld (chk : xV → Bool) (i nx : Nat) : xO := fun _ c ls st w k n => x_nth ls i fun v => x_if (chk v) (c nx ls (v :: st) w k n)
theorem xs_ld {chk : xV → Bool} {i nx : Nat} (h9 : ∀ n, chk (9, n) = false) (row : ∀ (E : xE) (al : List Nat) (v : xV) (V : Value), chk v = true → x_rv E al v V → ∀ (p : Program) (l : Launch) (e : Env) (R : Room) (s : State) (m : MethodId) (args : Array Value) (below : List Frame) (meth : Method) (c : Code) (H : Heap) (locs : List Loc) (k n : Nat) (Q : State → Prop) (als : Array Slot) (rest : List Value), p.tables.exec = Jvm.exec → c.code = cc → als[i]? = some (.val V) → W p l e R s m args below meth c H locs k n Q (F0 m nx als (V :: rest)) → W p l e R s m args below meth c H locs k n Q (F0 m pc als rest)) : x_Ok ms Z own nm cc nL rt hh pc (xo_ld chk i nx) := by
  intro d fn hfn E al0 r p l e R s m args below meth c Q hC cont ih ls st w k n h
  obtain ⟨v, h1, h⟩ := x_nth_some h
  obtain ⟨h2, h⟩ := x_if_some h
  have g := ih _ _ _ _ _ _ h
  obtain ⟨hx, hb, -⟩ := hC
  refine ⟨g.1, g.2.1, fun ws H locs als lv vst hW hal hS hl hL hV => ?_⟩
  obtain ⟨V, h3, h4⟩ := hL i v h1 (x_not9 (E := E) (al := []) h9 h2)
  exact row E _ v V h2 h4 p l e R s m args below meth c H locs k n Q als vst hx hb (hl.2.2 (i, V) h3) (g.2.2 ws H locs als lv (V :: vst) hW hal hS hl hL ⟨h4, hV⟩)
theorem xs_iload {i : Nat} (hd : decode cc pc = .ok (.iload i, 2)) : x_Ok ms Z own nm cc nL rt hh pc (xo_ld x_isI i (pc + 2)) := xs_ld (fun _ => rfl) fun E al v V hi hV p l e R s m args below meth c H locs k n Q als rest hx hb ha kk => by
  have e := x_ri_of hi hV
  subst e
  exact lv_iload hx hb hd ha kk
theorem xs_iload_n {j : Fin 4} {i : Nat} (hd : decode cc pc = .ok (.iload_n j, 1)) (hj : (j : Nat) = i) : x_Ok ms Z own nm cc nL rt hh pc (xo_ld x_isI i (pc + 1)) := xs_ld (fun _ => rfl) fun E al v V hi hV p l e R s m args below meth c H locs k n Q als rest hx hb ha kk => by
  have e := x_ri_of hi hV
  subst e
  exact lv_iload_n hx hb hd hj ha kk
theorem xs_aload {i : Nat} (hd : decode cc pc = .ok (.aload i, 2)) : x_Ok ms Z own nm cc nL rt hh pc (xo_ld x_isA i (pc + 2)) := xs_ld (fun _ => rfl) fun E al v V hi hV p l e R s m args below meth c H locs k n Q als rest hx hb ha kk => by
  rcases x_isA_of hi hV with e | ⟨a, e⟩
  · subst e
    exact lv_aloadN hx hb hd ha kk
  · subst e
    exact lv_aload hx hb hd ha kk
theorem xs_aload_n {j : Fin 4} {i : Nat} (hd : decode cc pc = .ok (.aload_n j, 1)) (hj : (j : Nat) = i) : x_Ok ms Z own nm cc nL rt hh pc (xo_ld x_isA i (pc + 1)) := xs_ld (fun _ => rfl) fun E al v V hi hV p l e R s m args below meth c H locs k n Q als rest hx hb ha kk => by
  rcases x_isA_of hi hV with e | ⟨a, e⟩
  · subst e
    exact lv_aload_nN hx hb hd hj ha kk
  · subst e
    exact lv_aload_n hx hb hd hj ha kk
theorem xs_lload {i : Nat} (hd : decode cc pc = .ok (.lload i, 2)) : x_Ok ms Z own nm cc nL rt hh pc (xo_ld (x_isT 3) i (pc + 2)) := xs_ld (fun _ => rfl) fun E al v V hi hV p l e R s m args below meth c H locs k n Q als rest hx hb ha kk => by
  obtain ⟨u, rfl⟩ := x_isT_of hi
  cases hV
  exact lv_lload hx hb hd ha kk
theorem xs_lload_n {j : Fin 4} {i : Nat} (hd : decode cc pc = .ok (.lload_n j, 1)) (hj : (j : Nat) = i) : x_Ok ms Z own nm cc nL rt hh pc (xo_ld (x_isT 3) i (pc + 1)) := xs_ld (fun _ => rfl) fun E al v V hi hV p l e R s m args below meth c H locs k n Q als rest hx hb ha kk => by
  obtain ⟨u, rfl⟩ := x_isT_of hi
  cases hV
  exact lv_lload_n hx hb hd hj ha kk
/-- one value into a local: the slot ahead doesn't begin a long -/
noncomputable def x_pre {β : Type} (ls : List xV) (i : Nat) (kk : Option β) : Option β := Nat.rec (motive := fun _ => Option β) kk (fun j _ => x_nth ls j fun u => x_if (x_c1 u) kk) i
theorem x_pre_some {β : Type} {ls : List xV} {i : Nat} {kk : Option β} {r : β} (h : x_pre ls i kk = some r) : (∀ j u, j + 1 = i → ls[j]? = some u → x_c1 u = true) ∧ kk = some r := by
  cases i with
  | zero => exact ⟨fun j u hj => by omega, h⟩
  | succ j =>
    obtain ⟨u, h1, h2⟩ := x_nth_some (k := fun u => x_if (x_c1 u) kk) h
    obtain ⟨h3, h4⟩ := x_if_some h2
    refine ⟨fun j' u' hj hu => ?_, h4⟩
    have e : j' = j := by omega
    subst e
    rw [h1] at hu
    cases hu
    exact h3
theorem x_RL_st {E : xE} {al : List Nat} {sl : List xV} {lv : List (Nat × Value)} {i : Nat} {v : xV} {V : Value} (hL : x_RL E al sl lv) (hv : x_rv E al v V) (hp : ∀ j u, j + 1 = i → sl[j]? = some u → x_c1 u = true) : x_RL E al (sl.set i v) ((i, V) :: lv.filter (fun q => !(q.1 == i) && !(q.1 + 1 == i && q.2.category == 2))) := by
  intro j u hj hu
  by_cases hij : i = j
  · subst hij
    have hl : i < sl.length := by
      have := (List.getElem?_eq_some_iff.mp hj).1
      rwa [List.length_set] at this
    rw [List.getElem?_set_self hl] at hj
    cases hj
    exact ⟨V, List.mem_cons_self, hv⟩
  · rw [List.getElem?_set_ne hij] at hj
    obtain ⟨U, h1, h2⟩ := hL j u hj hu
    refine ⟨U, List.mem_cons_of_mem _ (List.mem_filter.mpr ⟨h1, ?_⟩), h2⟩
    have hji : ¬ j = i := fun q => hij q.symm
    by_cases hj1 : j + 1 = i
    · have hc := x_c1_cat (hp j u hj1 hj) h2
      simp [hji, hc]
    · simp [hji, hj1]
theorem x_RL_st2 {E : xE} {al : List Nat} {sl : List xV} {lv : List (Nat × Value)} {i : Nat} {v : xV} {V : Value} (hi : i < sl.length) (hL : x_RL E al sl lv) (hv : x_rv E al v V) (hp : ∀ j u, j + 1 = i → sl[j]? = some u → x_c1 u = true) : x_RL E al ((sl.set i v).set (i + 1) (9, 0)) ((i, V) :: lv.filter (fun q => !(q.1 == i) && (!(q.1 == i + 1) && !(q.1 + 1 == i && q.2.category == 2)))) := by
  intro j u hj hu
  by_cases hj1 : i + 1 = j
  · subst hj1
    have hl : i + 1 < (sl.set i v).length := by
      have := (List.getElem?_eq_some_iff.mp hj).1
      rwa [List.length_set] at this
    rw [List.getElem?_set_self hl] at hj
    cases hj
    exact absurd rfl hu
  rw [List.getElem?_set_ne hj1] at hj
  by_cases hij : i = j
  · subst hij
    rw [List.getElem?_set_self hi] at hj
    cases hj
    exact ⟨V, List.mem_cons_self, hv⟩
  · rw [List.getElem?_set_ne hij] at hj
    obtain ⟨U, h1, h2⟩ := hL j u hj hu
    refine ⟨U, List.mem_cons_of_mem _ (List.mem_filter.mpr ⟨h1, ?_⟩), h2⟩
    have hji : ¬ j = i := fun q => hij q.symm
    have hji1 : ¬ j = i + 1 := fun q => hj1 q.symm
    by_cases hj2 : j + 1 = i
    · have hc := x_c1_cat (hp j u hj2 hj) h2
      simp [hji, hji1, hc]
    · simp [hji, hji1, hj2]
noncomputable def xo_st (chk : xV → Bool) (i nx : Nat) : xO := fun _ c ls st w k n => x_pop st fun v t => x_if (chk v) (x_pre ls i (x_set v ls i fun ls' => c nx ls' t w k n))
theorem xs_st {chk : xV → Bool} {i nx : Nat} (hn : i < nL) (row : ∀ (E : xE) (al : List Nat) (v : xV) (V : Value), chk v = true → x_rv E al v V → ∀ (p : Program) (l : Launch) (e : Env) (R : Room) (s : State) (m : MethodId) (args : Array Value) (below : List Frame) (meth : Method) (c : Code) (H : Heap) (locs : List Loc) (k n : Nat) (Q : State → Prop) (als : Array Slot) (lv : List (Nat × Value)) (rest : List Value), p.tables.exec = Jvm.exec → c.code = cc → lv_has als nL lv → (∀ als' : Array Slot, lv_has als' nL ((i, V) :: lv.filter (fun q => !(q.1 == i) && !(q.1 + 1 == i && q.2.category == 2))) → W p l e R s m args below meth c H locs k n Q (F0 m nx als' rest)) → W p l e R s m args below meth c H locs k n Q (F0 m pc als (V :: rest))) : x_Ok ms Z own nm cc nL rt hh pc (xo_st chk i nx) := by
  intro d fn hfn E al0 r p l e R s m args below meth c Q hC cont ih ls st w k n h
  replace h := x_pop_some h
  obtain ⟨v, t, rfl, h⟩ := h
  obtain ⟨h2, h⟩ := x_if_some h
  obtain ⟨h3, h⟩ := x_pre_some h
  obtain ⟨h4, h⟩ := x_set_some h
  have g := ih _ _ _ _ _ _ h
  obtain ⟨hx, hb, -⟩ := hC
  refine ⟨g.1, g.2.1, fun ws H locs als lv vst hW hal hS hl hL hV => ?_⟩
  replace hV := hV.cons
  obtain ⟨V, vst, rfl, h5, hV⟩ := hV
  exact row E _ v V h2 h5 p l e R s m args below meth c H locs k n Q als lv vst hx hb hl fun als' hl' => g.2.2 ws H locs als' _ vst hW hal hS hl' (x_RL_st hL h5 h3) hV
theorem xs_istore {i : Nat} (hn : i < nL) (hd : decode cc pc = .ok (.istore i, 2)) : x_Ok ms Z own nm cc nL rt hh pc (xo_st x_isI i (pc + 2)) := xs_st hn fun E al v V hi hV p l e R s m args below meth c H locs k n Q als lv rest hx hb hl kk => by
  have e := x_ri_of hi hV
  subst e
  exact lv_istore hx hb hd hl hn rfl kk
theorem xs_istore_n {j : Fin 4} {i : Nat} (hn : i < nL) (hd : decode cc pc = .ok (.istore_n j, 1)) (hj : (j : Nat) = i) : x_Ok ms Z own nm cc nL rt hh pc (xo_st x_isI i (pc + 1)) := xs_st hn fun E al v V hi hV p l e R s m args below meth c H locs k n Q als lv rest hx hb hl kk => by
  have e := x_ri_of hi hV
  subst e
  exact lv_istore_n hx hb hd hj hl hn rfl kk
theorem xs_astore {i : Nat} (hn : i < nL) (hd : decode cc pc = .ok (.astore i, 2)) : x_Ok ms Z own nm cc nL rt hh pc (xo_st x_isA i (pc + 2)) := xs_st hn fun E al v V hi hV p l e R s m args below meth c H locs k n Q als lv rest hx hb hl kk => by
  rcases x_isA_of hi hV with e | ⟨a, e⟩
  · subst e
    exact lv_astoreN hx hb hd hl hn rfl kk
  · subst e
    exact lv_astore hx hb hd hl hn rfl kk
theorem xs_astore_n {j : Fin 4} {i : Nat} (hn : i < nL) (hd : decode cc pc = .ok (.astore_n j, 1)) (hj : (j : Nat) = i) : x_Ok ms Z own nm cc nL rt hh pc (xo_st x_isA i (pc + 1)) := xs_st hn fun E al v V hi hV p l e R s m args below meth c H locs k n Q als lv rest hx hb hl kk => by
  rcases x_isA_of hi hV with e | ⟨a, e⟩
  · subst e
    exact lv_astore_nN hx hb hd hj hl hn rfl kk
  · subst e
    exact lv_astore_n hx hb hd hj hl hn rfl kk
theorem xs_fstore {i : Nat} (hn : i < nL) (hd : decode cc pc = .ok (.fstore i, 2)) : x_Ok ms Z own nm cc nL rt hh pc (xo_st (x_isT 6) i (pc + 2)) := xs_st hn fun E al v V hi hV p l e R s m args below meth c H locs k n Q als lv rest hx hb hl kk => by
  obtain ⟨u, rfl⟩ := x_isT_of hi
  cases hV
  exact lv_fstore hx hb hd hl hn rfl kk
/-- a long, or a double, into two locals -/
noncomputable def xo_st2 (chk : xV → Bool) (i nx : Nat) : xO := fun _ c ls st w k n => x_pop st fun v t => x_if (chk v) (x_pre ls i (x_set v ls i fun ls' => x_set (9, 0) ls' (i + 1) fun ls'' => c nx ls'' t w k n))
theorem xs_st2 {chk : xV → Bool} {i nx : Nat} (hn : i + 1 < nL) (row : ∀ (E : xE) (al : List Nat) (v : xV) (V : Value), chk v = true → x_rv E al v V → ∀ (p : Program) (l : Launch) (e : Env) (R : Room) (s : State) (m : MethodId) (args : Array Value) (below : List Frame) (meth : Method) (c : Code) (H : Heap) (locs : List Loc) (k n : Nat) (Q : State → Prop) (als : Array Slot) (lv : List (Nat × Value)) (rest : List Value), p.tables.exec = Jvm.exec → c.code = cc → lv_has als nL lv → (∀ als' : Array Slot, lv_has als' nL ((i, V) :: lv.filter (fun q => !(q.1 == i) && (!(q.1 == i + 1) && !(q.1 + 1 == i && q.2.category == 2)))) → W p l e R s m args below meth c H locs k n Q (F0 m nx als' rest)) → W p l e R s m args below meth c H locs k n Q (F0 m pc als (V :: rest))) : x_Ok ms Z own nm cc nL rt hh pc (xo_st2 chk i nx) := by
  intro d fn hfn E al0 r p l e R s m args below meth c Q hC cont ih ls st w k n h
  replace h := x_pop_some h
  obtain ⟨v, t, rfl, h⟩ := h
  obtain ⟨h2, h⟩ := x_if_some h
  obtain ⟨h3, h⟩ := x_pre_some h
  obtain ⟨h4, h⟩ := x_set_some h
  obtain ⟨h6, h⟩ := x_set_some h
  have g := ih _ _ _ _ _ _ h
  obtain ⟨hx, hb, -⟩ := hC
  refine ⟨g.1, g.2.1, fun ws H locs als lv vst hW hal hS hl hL hV => ?_⟩
  replace hV := hV.cons
  obtain ⟨V, vst, rfl, h5, hV⟩ := hV
  exact row E _ v V h2 h5 p l e R s m args below meth c H locs k n Q als lv vst hx hb hl fun als' hl' => g.2.2 ws H locs als' _ vst hW hal hS hl' (x_RL_st2 h4 hL h5 h3) hV
theorem xs_lstore {i : Nat} (hn : i + 1 < nL) (hd : decode cc pc = .ok (.lstore i, 2)) : x_Ok ms Z own nm cc nL rt hh pc (xo_st2 (x_isT 3) i (pc + 2)) := xs_st2 hn fun E al v V hi hV p l e R s m args below meth c H locs k n Q als lv rest hx hb hl kk => by
  obtain ⟨u, rfl⟩ := x_isT_of hi
  cases hV
  exact lv_lstore hx hb hd hl hn rfl kk
theorem xs_lstore_n {j : Fin 4} {i : Nat} (hn : i + 1 < nL) (hd : decode cc pc = .ok (.lstore_n j, 1)) (hj : (j : Nat) = i) : x_Ok ms Z own nm cc nL rt hh pc (xo_st2 (x_isT 3) i (pc + 1)) := xs_st2 hn fun E al v V hi hV p l e R s m args below meth c H locs k n Q als lv rest hx hb hl kk => by
  obtain ⟨u, rfl⟩ := x_isT_of hi
  cases hV
  exact lv_lstore_n hx hb hd hj hl hn rfl kk
theorem xs_dstore {i : Nat} (hn : i + 1 < nL) (hd : decode cc pc = .ok (.dstore i, 2)) : x_Ok ms Z own nm cc nL rt hh pc (xo_st2 (x_isT 7) i (pc + 2)) := xs_st2 hn fun E al v V hi hV p l e R s m args below meth c H locs k n Q als lv rest hx hb hl kk => by
  obtain ⟨u, rfl⟩ := x_isT_of hi
  cases hV
  exact lv_dstore hx hb hd hl hn rfl kk
noncomputable def xo_iinc (i : Nat) (a : Int32) (nx : Nat) : xO := fun _ c ls st w k n => x_nth ls i fun v => x_tag 2 v fun b => x_pre ls i (x_fn (nI b + a).toUInt32.toNat fun z => x_set (2, z) ls i fun ls' => c nx ls' st w k n)
theorem xs_iinc {i : Nat} {a : Int} {b : Int32} (hn : i < nL) (hd : decode cc pc = .ok (.iinc i a, 3)) (hab : Int32.ofInt a = b) : x_Ok ms Z own nm cc nL rt hh pc (xo_iinc i b (pc + 3)) := by
  subst hab
  intro d fn hfn E al0 r p l e R s m args below meth c Q hC cont ih ls st w k n h
  obtain ⟨v, h1, h⟩ := x_nth_some h
  replace h := x_tag_some h
  obtain ⟨u, rfl, h⟩ := h
  obtain ⟨h3, h⟩ := x_pre_some h
  rw [x_fn_eq] at h
  obtain ⟨h4, h⟩ := x_set_some h
  have g := ih _ _ _ _ _ _ h
  obtain ⟨hx, hb, -⟩ := hC
  refine ⟨g.1, g.2.1, fun ws H locs als lv vst hW hal hS hl hL hV => ?_⟩
  obtain ⟨V, h5, h6⟩ := hL i _ h1 (by show (2 : Nat) ≠ 9; decide)
  cases h6
  obtain ⟨j, h7⟩ := List.getElem?_of_mem h5
  exact lv_iinc hx hb hd hl h7 rfl hn rfl fun als' hl' => g.2.2 ws H locs als' _ vst hW hal hS hl' (x_RL_st hL (by show Value.int _ = .int (nI _); rw [x_nI]) h3) hV
end XLOC
end
section
/-! FIELDS, NEW OBJECTS, STATICS -/
section XHEAP
variable {ms : List xM} {Z : xD} {own nm : String} {cc : ByteArray} {nL : Nat} {rt : Option FieldType} {hh : List (Nat × Nat × Nat × Nat)} {pc : Nat}
theorem x_RC_obj {E : xE} {al : List Nat} {c : xC} {e : va_E} (h : x_RC E al c e) (hc : c.1 < 100) : ∃ vs, e = .inr (c.1, vs) ∧ x_RS E al c.2 vs := by
  rcases h with ⟨-, h⟩ | ⟨h1, -⟩ | ⟨h1, -⟩ | ⟨h1, -⟩ | ⟨h0, h1, -⟩
  · exact h
  all_goals omega
noncomputable def xo_get (ci fk nx : Nat) : xO := fun _ c ls st w k n => x_pop st fun o t => x_tag 1 o fun i => x_nth w i fun q => x_if (Nat.beq q.1 ci) (x_nth q.2 fk fun v => c nx ls (v :: t) w k n)
theorem xs_getW {ci fk : Nat} {C : String} {T : u_T} {N : Nat} (hci : ci < 100) (hc : xcl[ci]? = some (C, T, N))
    (row : ∀ (d : Nat) (E : xE) (al0 : List Nat) (r : xT) (p : Program) (l : Launch) (e : Env) (R : Room) (s : State) (m : MethodId) (args : Array Value) (below : List Frame) (meth : Method) (c : Code) (Q : State → Prop), x_Cx own nm cc nL rt hh d Z E al0 r p l e R s m args below meth c Q → ∀ (ws : va_W) (H : Heap) (locs : List Loc) (als : Array Slot) (k n q0 a : Nat) (fs rest : List Value) (v : Value), va_P E.1 xcl ws H → ws[q0]? = some (a, .inr (ci, fs)) → fs[fk]? = some v → W p l e R s m args below meth c H locs k n Q (F0 m (pc + 3) als (v :: rest)) → W p l e R s m args below meth c H locs k n Q (F0 m pc als (.ref a :: rest))) : x_Ok ms Z own nm cc nL rt hh pc (xo_get ci fk (pc + 3)) := by
  intro d fn hfn E al0 r p l e R s m args below meth c Q hC cont ih ls st w k n h
  replace h := x_pop_some h
  obtain ⟨o, t, rfl, h⟩ := h
  replace h := x_tag_some h
  obtain ⟨i, rfl, h⟩ := h
  obtain ⟨q, h1, h⟩ := x_nth_some h
  obtain ⟨h2, h⟩ := x_if_some h
  obtain ⟨v, h3, h⟩ := x_nth_some h
  have g := ih _ _ _ _ _ _ h
  refine ⟨g.1, g.2.1, fun ws H locs als lv vst hW hal hS hl hL hV => ?_⟩
  replace hV := hV.cons
  obtain ⟨O, vst, rfl, ⟨a, h4, rfl⟩, hV⟩ := hV
  obtain ⟨e1, h5, h6⟩ := hW.1.get h1 h4
  have hq : q.1 = ci := Nat.eq_of_beq_eq_true h2
  obtain ⟨fs, rfl, h7⟩ := x_RC_obj h6 (by rw [hq]; exact hci)
  obtain ⟨V, h8, h9⟩ := h7.get h3
  exact row d E al0 r p l e R s m args below meth c Q hC ws H locs als k n i a fs vst V hW.2.1 (by rw [← hq]; exact h5) h8 (g.2.2 ws H locs als lv (V :: vst) hW hal hS hl hL ⟨h9, hV⟩)
theorem xs_get {ci fk index : Nat} {C ref fnm fds : String} {T : u_T} {N : Nat} (hci : ci < 100) (hc : xcl[ci]? = some (C, T, N)) (hk : fk < N) (hin : ∀ w ∈ u_ws C T N, w ∈ xTb) (hn : (T fk).2.1 = fnm) (hds : (T fk).2.2.1 = fds) (hlk : Cond.fieldLink own index ref fnm fds ∈ xTb) (hsm : ref = (T fk).1 ∨ Cond.sameField ref (T fk).1 fnm fds ∈ xTb) (hd : decode cc pc = .ok (.getfield index, 3)) : x_Ok ms Z own nm cc nL rt hh pc (xo_get ci fk (pc + 3)) := by
  subst hn
  subst hds
  refine xs_getW hci hc fun d E al0 r p l e R s m args below meth c Q hC ws H locs als k n q0 a fs rest v hP he hv kk => ?_
  obtain ⟨hx, hb, -, ho, hts, hK, -⟩ := hC
  refine va_get hx hb hts hin ho hK hP q0 he hc fk hk (hts _ hlk) ?_ hv hd kk
  rcases hsm with h | h
  · subst h
    exact fun x hx => hx
  · exact u_same (hts _ h)
theorem xs_getN {ci fk index : Nat} {C ref host fnm fds : String} {T : u_T} {N : Nat} (hci : ci < 100) (hc : xcl[ci]? = some (C, T, N)) (hk : fk < N) (hin : ∀ w ∈ u_ws C T N, w ∈ xTb) (hn : (T fk).2.1 = fnm) (hds : (T fk).2.2.1 = fds) (hlk : (own, index, ref, fnm, fds, host) ∈ Z.1) (hsm : ref = (T fk).1) (hd : decode cc pc = .ok (.getfield index, 3)) : x_Ok ms Z own nm cc nL rt hh pc (xo_get ci fk (pc + 3)) := by
  subst hn
  subst hds
  refine xs_getW hci hc fun d E al0 r p l e R s m args below meth c Q hC ws H locs als k n q0 a fs rest v hP he hv kk => ?_
  obtain ⟨hx, hb, -, ho, hts, hK, ⟨-, -, -, -, -, ⟨f1, -⟩, -⟩, -⟩ := hC
  exact va_getN hx hb hts hin ho hK hP q0 he hc fk hk (va_Nw.use rfl (f1 _ hlk)) (by subst hsm; exact fun x hx => hx) hv hd kk
/-- what a field takes -/
def x_isC (v : xV) : Bool := Nat.beq v.1 2 && (decide ((nI v.2).toUInt32.toUInt16.toUInt32.toInt32 = nI v.2) && (decide (0 ≤ nI v.2) && decide (nI v.2 ≤ 65535)))
def x_Fit (ty : FieldType) (chk : xV → Bool) : Prop := ∀ (E : xE) (al : List Nat) (v : xV) (V : Value), chk v = true → x_rv E al v V → narrow ty V = V ∧ fits ty V = true
theorem x_fit_int : x_Fit .int x_isI := fun E al v V hi hV => by
  have e := x_ri_of hi hV
  subst e
  exact ⟨rfl, rfl⟩
theorem x_fit_long : x_Fit .long (x_isT 3) := fun E al v V hi hV => by
  obtain ⟨u, rfl⟩ := x_isT_of hi
  cases hV
  exact ⟨rfl, rfl⟩
theorem x_fit_char : x_Fit .char x_isC := fun E al v V hi hV => by
  obtain ⟨t, u⟩ := v
  simp only [x_isC, Bool.and_eq_true, decide_eq_true_eq] at hi
  obtain ⟨h1, h2, h3, h4⟩ := hi
  have e : t = 2 := Nat.eq_of_beq_eq_true h1
  subst e
  cases hV
  exact ⟨congrArg Value.int h2, by simp [fits, h3, h4]⟩
theorem x_fit_obj {C : String} : x_Fit (.object C) x_isA := fun E al v V hi hV => by
  rcases x_isA_of hi hV with e | ⟨a, e⟩ <;> subst e <;> exact ⟨rfl, rfl⟩
theorem x_fit_arr {t : FieldType} : x_Fit (.array t) x_isA := fun E al v V hi hV => by
  rcases x_isA_of hi hV with e | ⟨a, e⟩ <;> subst e <;> exact ⟨rfl, rfl⟩
noncomputable def xo_put (ci fk : Nat) (chk : xV → Bool) (nx : Nat) : xO := fun _ c ls st w k n => x_pop st fun v t => x_pop t fun o t => x_tag 1 o fun i => x_nth w i fun q => x_if (Nat.beq q.1 ci && chk v) (x_set v q.2 fk fun l' => x_set (ci, l') w i fun w' => c nx ls t w' k n)
theorem xs_putW {ci fk : Nat} {chk : xV → Bool} {ty : FieldType} {C : String} {T : u_T} {N : Nat} (hci : ci < 100) (hc : xcl[ci]? = some (C, T, N)) (hft : x_Fit ty chk)
    (row : ∀ (d : Nat) (E : xE) (al0 : List Nat) (r : xT) (p : Program) (l : Launch) (e : Env) (R : Room) (s : State) (m : MethodId) (args : Array Value) (below : List Frame) (meth : Method) (c : Code) (Q : State → Prop), x_Cx own nm cc nL rt hh d Z E al0 r p l e R s m args below meth c Q → ∀ (ws : va_W) (H : Heap) (locs : List Loc) (als : Array Slot) (k n q0 a : Nat) (fs rest : List Value) (v : Value), va_P E.1 xcl ws H → va_D (x_A E) ws → va_S (x_A E) s.heap H locs → ws[q0]? = some (a, .inr (ci, fs)) → fk < fs.length → narrow ty v = v → fits ty v = true →
      (∀ (H1 : Heap) (locs1 : List Loc), va_P E.1 xcl (ws.set q0 (a, .inr (ci, fs.set fk v))) H1 → va_D (x_A E) (ws.set q0 (a, .inr (ci, fs.set fk v))) → va_S (x_A E) s.heap H1 locs1 → W p l e R s m args below meth c H1 locs1 k n Q (F0 m (pc + 3) als rest)) → W p l e R s m args below meth c H locs k n Q (F0 m pc als (v :: .ref a :: rest))) : x_Ok ms Z own nm cc nL rt hh pc (xo_put ci fk chk (pc + 3)) := by
  intro d fn hfn E al0 r p l e R s m args below meth c Q hC cont ih ls st w k n h
  replace h := x_pop_some h
  obtain ⟨v, t, rfl, h⟩ := h
  replace h := x_pop_some h
  obtain ⟨o, t, rfl, h⟩ := h
  replace h := x_tag_some h
  obtain ⟨i, rfl, h⟩ := h
  obtain ⟨q, h1, h⟩ := x_nth_some h
  obtain ⟨h2, h⟩ := x_if_some h
  obtain ⟨h3, h⟩ := x_set_some h
  obtain ⟨h4, h⟩ := x_set_some h
  have g := ih _ _ _ _ _ _ h
  refine ⟨g.1, g.2.1, fun ws H locs als lv vst hW hal hS hl hL hV => ?_⟩
  replace hV := hV.cons
  obtain ⟨V, vst, rfl, hv, hV⟩ := hV
  replace hV := hV.cons
  obtain ⟨O, vst, rfl, ⟨a, h5, rfl⟩, hV⟩ := hV
  obtain ⟨e1, h6, h7⟩ := hW.1.get h1 h5
  simp only [Bool.and_eq_true] at h2
  have hq : q.1 = ci := Nat.eq_of_beq_eq_true h2.1
  obtain ⟨fs, rfl, h8⟩ := x_RC_obj h7 (by rw [hq]; exact hci)
  rw [hq] at h6
  obtain ⟨h9, h10⟩ := hft E _ v V h2.2 hv
  refine row d E al0 r p l e R s m args below meth c Q hC ws H locs als k n i a fs vst V hW.2.1 hW.2.2 hS h6 (by rw [← h8.len]; exact h3) h9 h10 fun H1 locs1 hP hD hS1 => ?_
  have ha := x_al_set (e' := .inr (ci, fs.set fk V)) h6
  exact g.2.2 _ H1 locs1 als lv vst ⟨hW.1.set h6 (Or.inl ⟨hci, _, rfl, h8.set hv fk⟩), hP, hD⟩ (by rw [ha]; exact hal) hS1 hl (by rw [ha]; exact hL) (by rw [ha]; exact hV)
theorem xs_put {ci fk index : Nat} {chk : xV → Bool} {ty : FieldType} {C ref fnm fds : String} {T : u_T} {N : Nat} (hci : ci < 100) (hc : xcl[ci]? = some (C, T, N)) (hft : x_Fit ty chk) (hk : fk < N) (hin : ∀ w ∈ u_ws C T N, w ∈ xTb) (ty0 : Nat → FieldType) (hty : ∀ k, k < N → parseFieldDescriptor (T k).2.2.1 = some (ty0 k)) (hnm : ∀ a, a < N → ∀ b, b < N → a ≠ b → (T a).2.1 ≠ (T b).2.1) (hn : (T fk).2.1 = fnm) (hds : (T fk).2.2.1 = fds) (hlk : Cond.fieldLink own index ref fnm fds ∈ xTb) (hsm : ref = (T fk).1 ∨ Cond.sameField ref (T fk).1 fnm fds ∈ xTb) (hfin : (T fk).2.2.2 = false) (hpd : parseFieldDescriptor fds = some ty) (hd : decode cc pc = .ok (.putfield index, 3)) : x_Ok ms Z own nm cc nL rt hh pc (xo_put ci fk chk (pc + 3)) := by
  subst hn
  subst hds
  refine xs_putW hci hc hft fun d E al0 r p l e R s m args below meth c Q hC ws H locs als k n q0 a fs rest v hP hD hS he hl hnr hfi kk => ?_
  obtain ⟨hx, hb, -, ho, hts, hK, -⟩ := hC
  refine va_put hx hb hts hin ty0 hty hnm ho hK hP hD hS q0 he hc fk hk (hts _ hlk) ?_ hfin hpd hnr hfi hl hd kk
  rcases hsm with h | h
  · subst h
    exact fun x hx => hx
  · exact u_same (hts _ h)
theorem xs_putN {ci fk index : Nat} {chk : xV → Bool} {ty : FieldType} {C ref host fnm fds : String} {T : u_T} {N : Nat} (hci : ci < 100) (hc : xcl[ci]? = some (C, T, N)) (hft : x_Fit ty chk) (hk : fk < N) (hin : ∀ w ∈ u_ws C T N, w ∈ xTb) (ty0 : Nat → FieldType) (hty : ∀ k, k < N → parseFieldDescriptor (T k).2.2.1 = some (ty0 k)) (hnm : ∀ a, a < N → ∀ b, b < N → a ≠ b → (T a).2.1 ≠ (T b).2.1) (hn : (T fk).2.1 = fnm) (hds : (T fk).2.2.1 = fds) (hlk : (own, index, ref, fnm, fds, host) ∈ Z.1) (hsm : ref = (T fk).1) (hfin : (T fk).2.2.2 = false) (hpd : parseFieldDescriptor fds = some ty) (hd : decode cc pc = .ok (.putfield index, 3)) : x_Ok ms Z own nm cc nL rt hh pc (xo_put ci fk chk (pc + 3)) := by
  subst hn
  subst hds
  refine xs_putW hci hc hft fun d E al0 r p l e R s m args below meth c Q hC ws H locs als k n q0 a fs rest v hP hD hS he hl hnr hfi kk => ?_
  obtain ⟨hx, hb, -, ho, hts, hK, ⟨-, -, -, -, -, ⟨f1, -⟩, -⟩, -⟩ := hC
  exact va_putN hx hb hts hin ty0 hty hnm ho hK hP hD hS q0 he hc fk hk (va_Nw.use rfl (f1 _ hlk)) (by subst hsm; exact fun x hx => hx) hfin hpd hnr hfi hl hd kk
theorem xs_putF {ci fk index : Nat} {chk : xV → Bool} {ty : FieldType} {C ref fnm fds : String} {T : u_T} {N : Nat} (hci : ci < 100) (hc : xcl[ci]? = some (C, T, N)) (hft : x_Fit ty chk) (hk : fk < N) (hin : ∀ w ∈ u_ws C T N, w ∈ xTb) (ty0 : Nat → FieldType) (hty : ∀ k, k < N → parseFieldDescriptor (T k).2.2.1 = some (ty0 k)) (hnm : ∀ a, a < N → ∀ b, b < N → a ≠ b → (T a).2.1 ≠ (T b).2.1) (hn : (T fk).2.1 = fnm) (hds : (T fk).2.2.1 = fds) (hlk : Cond.fieldLink own index ref fnm fds ∈ xTb) (hsm : ref = (T fk).1) (hfin : (T fk).2.2.2 = true) (hini : nm = "<init>") (hdc : (T fk).1 = own) (hpd : parseFieldDescriptor fds = some ty) (hd : decode cc pc = .ok (.putfield index, 3)) : x_Ok ms Z own nm cc nL rt hh pc (xo_put ci fk chk (pc + 3)) := by
  subst hn
  subst hds
  refine xs_putW hci hc hft fun d E al0 r p l e R s m args below meth c Q hC ws H locs als k n q0 a fs rest v hP hD hS he hl hnr hfi kk => ?_
  obtain ⟨hx, hb, -, ho, hts, hK, -, -, -, -, hnme, -⟩ := hC
  exact va_putF hx hb hts hin ty0 hty hnm ho hK hP hD hS q0 he hc fk hk (hts _ hlk) (by subst hsm; exact fun x hx => hx) hfin (hnme.trans hini) hdc hpd hnr hfi hl hd kk
/-- a static field -/
theorem xs_gets {v : xV} {V : Value} {index : Nat} {ref C fnm fds : String} (henv : ∀ (E : xE) (s : State), x_EnD Z E s s.heap → (∀ al, x_rv E al v (V)) ∧ va_Z C fnm fds V (x_A E) s s.heap) (hlk : Cond.fieldLink own index ref fnm fds ∈ xTb) (hsm : ref = C) (hd : decode cc pc = .ok (.getstatic index, 3)) : x_Ok ms Z own nm cc nL rt hh pc (xo_push v (pc + 3)) := by
  intro d fn hfn E al0 r p l e R s m args below meth c Q hC cont ih ls st w k n h
  have g := ih _ _ _ _ _ _ h
  obtain ⟨hx, hb, -, ho, hts, hK, hE, -⟩ := hC
  refine ⟨g.1, g.2.1, fun ws H locs als lv vst hW hal hS hl hL hV => ?_⟩
  obtain ⟨h1, h2⟩ := henv E s hE
  exact va_gets hx hb h2 hS ho (hts _ hlk) (by subst hsm; exact fun x hx => hx) hd (g.2.2 ws H locs als lv (V :: vst) hW hal hS hl hL ⟨h1 _, hV⟩)
theorem xs_getsU {index : Nat} {host : String} (hlk : (own, index, "java/util/Arrays$LegacyMergeSort", "userRequested", "Z", host) ∈ Z.1) (hd : decode cc pc = .ok (.getstatic index, 3)) : x_Ok ms Z own nm cc nL rt hh pc (xo_push (2, 0) (pc + 3)) := by
  intro d fn hfn E al0 r p l e R s m args below meth c Q hC cont ih ls st w k n h
  have g := ih _ _ _ _ _ _ h
  obtain ⟨hx, hb, -, ho, hts, hK, hE, -⟩ := hC
  refine ⟨g.1, g.2.1, fun ws H locs als lv vst hW hal hS hl hL hV => ?_⟩
  exact va_getsN hx hb hE.2.2.1.1 hS ho (va_Nw.use rfl (hE.2.2.2.2.2.1.1 _ hlk)) (fun x hx => hx) hd (g.2.2 ws H locs als lv (.int 0 :: vst) hW hal hS hl hL ⟨rfl, hV⟩)
theorem xs_getsA {index : Nat} (hlk : Cond.fieldLink own index "java/util/TimSort" "$assertionsDisabled" "Z" ∈ xTb) (hd : decode cc pc = .ok (.getstatic index, 3)) : x_Ok ms Z own nm cc nL rt hh pc (xo_push (2, 1) (pc + 3)) := xs_gets (V := .int 1) (fun E s h => ⟨fun _ => rfl, h.2.2.1.2⟩) hlk rfl hd
theorem xs_getsD {index : Nat} (hlk : Cond.fieldLink own index "java/util/ArrayList" "DEFAULTCAPACITY_EMPTY_ELEMENTDATA" "[Ljava/lang/Object;" ∈ xTb) (hd : decode cc pc = .ok (.getstatic index, 3)) : x_Ok ms Z own nm cc nL rt hh pc (xo_push (5, 1) (pc + 3)) := by
  intro d fn hfn E al0 r p l e R s m args below meth c Q hC cont ih ls st w k n h
  have g := ih _ _ _ _ _ _ h
  obtain ⟨hx, hb, -, ho, hts, hK, hE, -⟩ := hC
  refine ⟨g.1, g.2.1, fun ws H locs als lv vst hW hal hS hl hL hV => ?_⟩
  exact va_gets hx hb hE.2.1.1 hS ho (hts _ hlk) (fun x hx => hx) hd (g.2.2 ws H locs als lv (.ref (x_xi E 1) :: vst) hW hal hS hl hL ⟨rfl, hV⟩)
/-- the default values -/
def x_dv (v : xV) : Value := match v with
  | (2, n) => .int (nI n)
  | (3, n) => .long (lN n)
  | _ => .null
def x_isD (v : xV) : Bool := Nat.beq v.1 0 || (Nat.beq v.1 2 || Nat.beq v.1 3)
theorem x_dv_rv {E : xE} {al : List Nat} {v : xV} (h : x_isD v = true) : x_rv E al v (x_dv v) := by
  obtain ⟨t, n⟩ := v
  simp only [x_isD, Bool.or_eq_true] at h
  rcases h with h | h | h
  · have e : t = 0 := Nat.eq_of_beq_eq_true h
    subst e
    exact rfl
  · have e : t = 2 := Nat.eq_of_beq_eq_true h
    subst e
    exact rfl
  · have e : t = 3 := Nat.eq_of_beq_eq_true h
    subst e
    exact rfl
theorem x_dv_RS {E : xE} {al : List Nat} : ∀ {l : List xV}, l.all x_isD = true → x_RS E al l (l.map x_dv)
  | [], _ => trivial
  | v :: l, h => by
    simp only [List.all_cons, Bool.and_eq_true] at h
    exact ⟨x_dv_rv h.1, x_dv_RS h.2⟩
noncomputable def xo_new (ci : Nat) (ini : List xV) (N nx : Nat) : xO := fun _ c ls st w k n => x_fn w.length fun i => x_push (ci, ini) w fun w' => x_fn (k + 1) fun k' => x_fn (n + N) fun n' => c nx ls ((1, i) :: st) w' k' n'
theorem x_al_push {ws : va_W} {a : Nat} {e : va_E} : x_al (ws ++ [(a, e)]) = x_al ws ++ [a] := by simp
theorem x_RW_len {E : xE} {w : xW} {ws : va_W} (h : x_RW E w ws) {a : Nat} {e : va_E} : (x_al (ws ++ [(a, e)]))[w.length]? = some a := by
  rw [x_al_push, h.1, List.getElem?_append_right (by simp)]
  simp
theorem xs_new {ci index : Nat} {ini : List xV} {C : String} {T : u_T} {N : Nat} (hci : ci < 100) (hc : xcl[ci]? = some (C, T, N)) (hin : ∀ w ∈ u_ws C T N, w ∈ xTb) (ty0 : Nat → FieldType) (hty : ∀ k, k < N → parseFieldDescriptor (T k).2.2.1 = some (ty0 k)) (hini : ini.all x_isD = true) (hfs : ∀ j, j < N → defaultValue (ty0 j) = vp_V (ini.map x_dv) j) (hcl : Cond.classLink own index C ∈ xTb) (hins : Cond.instantiable C N ∈ xTb) (hit : Cond.initialized C ∈ xTb) (hd : decode cc pc = .ok (.new index, 3)) : x_Ok ms Z own nm cc nL rt hh pc (xo_new ci ini N (pc + 3)) := by
  intro d fn hfn E al0 r p l e R s m args below meth c Q hC cont ih ls st w k n h
  have h' : x_fn w.length (fun i => x_push (ci, ini) w fun w' => x_fn (k + 1) fun k' => x_fn (n + N) fun n' => cont (pc + 3) ls ((1, i) :: st) w' k' n') = some r := h
  rw [x_fn_eq, x_push_eq, x_fn_eq, x_fn_eq] at h'
  have g := ih _ _ _ _ _ _ h'
  obtain ⟨hx, hb, -, ho, hts, hK, hE, hb0, -, -, -, -, -, ⟨-, -, hR1, hR2⟩, -⟩ := hC
  refine ⟨Nat.le_trans (Nat.le_succ k) g.1, Nat.le_trans (Nat.le_add_right n N) g.2.1, fun ws H locs als lv vst hW hal hS hl hL hV => ?_⟩
  refine va_new hx hb hts hin ty0 hty ho (hts _ hcl) (hts _ hins) (hts _ hit) hK hW.2.1 hW.2.2 hS (fun q h => Nat.le_trans hb0 h) hc hfs (Nat.le_trans g.1 hR1) (Nat.le_trans g.2.1 hR2) hd fun q H1 hP hD hS1 => ?_
  have hp : x_al ws <+: x_al (ws ++ [(q, (.inr (ci, ini.map x_dv) : va_E))]) := by rw [x_al_push]; exact List.prefix_append _ _
  exact g.2.2 _ H1 locs als lv _ ⟨hW.1.push (Or.inl ⟨hci, _, rfl, x_dv_RS hini⟩), hP, hD⟩ (hal.trans hp) hS1 hl (hL.mono hp) ⟨⟨q, x_RW_len hW.1, rfl⟩, hV.mono hp⟩
end XHEAP
end
section
/-! ARRAYS -/
section XARR
variable {ms : List xM} {Z : xD} {own nm : String} {cc : ByteArray} {nL : Nat} {rt : Option FieldType} {hh : List (Nat × Nat × Nat × Nat)} {pc : Nat}
theorem x_ix {i n : Nat} (h : i < n) (hi : Nat.blt i 2147483648 = true) : vp_in (nI i) n ∧ (nI i).toNatClampNeg = i := by
  have h1 : i < 2 ^ 31 := Nat.le_of_ble_eq_true hi
  have h2 := nI_clamp h1
  refine ⟨?_, h2⟩
  rintro (q | q)
  · exact nI_pos h1 q
  · rw [h2] at q
    omega
/-- an element onto the stack -/
noncomputable def xo_ald (ck : Nat → Bool) (nx : Nat) : xO := fun _ c ls st w k n => x_pop st fun iv t => x_pop t fun av t => x_tag 2 iv fun i => x_tag 1 av fun a => x_if (Nat.blt i 2147483648) (x_nth w a fun q => x_if (ck q.1) (x_nth q.2 i fun v => c nx ls (v :: t) w k n))
theorem xs_aldW {ck : Nat → Bool} (row : ∀ (d : Nat) (E : xE) (al0 : List Nat) (r : xT) (p : Program) (l : Launch) (e : Env) (R : Room) (s : State) (m : MethodId) (args : Array Value) (below : List Frame) (meth : Method) (c : Code) (Q : State → Prop), x_Cx own nm cc nL rt hh d Z E al0 r p l e R s m args below meth c Q → ∀ (ws : va_W) (H : Heap) (locs : List Loc) (als : Array Slot) (k n q0 a i : Nat) (e1 : va_E) (q : xC) (v : xV) (rest : List Value), va_P E.1 xcl ws H → ws[q0]? = some (a, e1) → ck q.1 = true → x_RC E (x_al ws) q e1 → q.2[i]? = some v → vp_in (nI i) q.2.length → (nI i).toNatClampNeg = i → ∃ V, x_rv E (x_al ws) v V ∧ (W p l e R s m args below meth c H locs k n Q (F0 m (pc + 1) als (V :: rest)) → W p l e R s m args below meth c H locs k n Q (F0 m pc als (.int (nI i) :: .ref a :: rest)))) : x_Ok ms Z own nm cc nL rt hh pc (xo_ald ck (pc + 1)) := by
  intro d fn hfn E al0 r p l e R s m args below meth c Q hC cont ih ls st w k n h
  replace h := x_pop_some h
  obtain ⟨iv, t, rfl, h⟩ := h
  replace h := x_pop_some h
  obtain ⟨av, t, rfl, h⟩ := h
  replace h := x_tag_some h
  obtain ⟨i, rfl, h⟩ := h
  replace h := x_tag_some h
  obtain ⟨b, rfl, h⟩ := h
  obtain ⟨h0, h⟩ := x_if_some h
  obtain ⟨q, h1, h⟩ := x_nth_some h
  obtain ⟨h2, h⟩ := x_if_some h
  obtain ⟨v, h3, h⟩ := x_nth_some h
  have g := ih _ _ _ _ _ _ h
  refine ⟨g.1, g.2.1, fun ws H locs als lv vst hW hal hS hl hL hV => ?_⟩
  replace hV := hV.cons
  obtain ⟨I, vst, rfl, hI, hV⟩ := hV
  replace hV := hV.cons
  obtain ⟨O, vst, rfl, ⟨a, h4, rfl⟩, hV⟩ := hV
  cases hI
  obtain ⟨e1, h5, h6⟩ := hW.1.get h1 h4
  obtain ⟨h7, h8⟩ := x_ix (List.getElem?_eq_some_iff.mp h3).1 h0
  obtain ⟨V, h9, h10⟩ := row d E al0 r p l e R s m args below meth c Q hC ws H locs als k n b a i e1 q v vst hW.2.1 h5 h2 h6 h3 h7 h8
  exact h10 (g.2.2 ws H locs als lv (V :: vst) hW hal hS hl hL ⟨h9, hV⟩)
theorem x_RC_i {E : xE} {al : List Nat} {c : xC} {e : va_E} (h : x_RC E al c e) (hc : c.1 = 100) : ∃ f : Nat → Int32, e = .inl (E.2.1 0, c.2.length, .inl f) ∧ ∀ j v, c.2[j]? = some v → x_rv E al v (.int (f j)) := by
  rcases h with ⟨h1, -⟩ | ⟨-, h⟩ | ⟨h1, -⟩ | ⟨h1, -⟩ | ⟨h0, h1, -⟩
  · omega
  · exact h
  all_goals omega
theorem x_RC_l {E : xE} {al : List Nat} {c : xC} {e : va_E} (h : x_RC E al c e) (hc : c.1 = 101) : ∃ f : Nat → Int64, e = .inl (E.2.1 1, c.2.length, .inr (.inl f)) ∧ ∀ j v, c.2[j]? = some v → x_rv E al v (.long (f j)) := by
  rcases h with ⟨h1, -⟩ | ⟨h1, -⟩ | ⟨-, h⟩ | ⟨h1, -⟩ | ⟨h0, h1, -⟩
  · omega
  · omega
  · exact h
  all_goals omega
theorem x_RC_q {E : xE} {al : List Nat} {c : xC} {e : va_E} (h : x_RC E al c e) (hc : 103 ≤ c.1) : c.1 < 107 ∧ ∃ f : Nat → Option Nat, e = .inl (E.2.1 (c.1 - 100), c.2.length, .inr (.inr (.inr (.inr f)))) ∧ ∀ j v, c.2[j]? = some v → x_rv E al v (va_rf (f j)) := by
  rcases h with ⟨h1, -⟩ | ⟨h1, -⟩ | ⟨h1, -⟩ | ⟨h1, -⟩ | ⟨h0, h1, h⟩
  · omega
  · omega
  · omega
  · omega
  · exact ⟨h1, h⟩
/-- the types of the reference arrays -/
theorem x_tyq {dA : Nat → ClassId} {kd : Nat} (h0 : 103 ≤ kd) (h1 : kd < 107) : ∃ ty : FieldType, (x_tys dA)[kd - 100]? = some (dA (kd - 100), ty) ∧ ty.isReference = true := by
  obtain rfl | rfl | rfl | rfl : kd = 103 ∨ kd = 104 ∨ kd = 105 ∨ kd = 106 := by omega
  · exact ⟨_, rfl, rfl⟩
  · exact ⟨_, rfl, rfl⟩
  · exact ⟨_, rfl, rfl⟩
  · exact ⟨_, rfl, rfl⟩
def x_k100 (k : Nat) : Bool := Nat.beq k 100
def x_k101 (k : Nat) : Bool := Nat.beq k 101
def x_kq (k : Nat) : Bool := Nat.ble 103 k
theorem xs_iaload (hd : decode cc pc = .ok (.iaload, 1)) : x_Ok ms Z own nm cc nL rt hh pc (xo_ald x_k100 (pc + 1)) := xs_aldW fun d E al0 r p l e R s m args below meth c Q hC ws H locs als k n q0 a i e1 q v rest hP he hk hr hv hi hi2 => by
  obtain ⟨hx, hb, -, ho, hts, hK, -⟩ := hC
  obtain ⟨f, rfl, hf⟩ := x_RC_i hr (Nat.eq_of_beq_eq_true hk)
  refine ⟨.int (f i), hf i v hv, fun kk => ?_⟩
  refine va_iald hx hb hK hP q0 0 he rfl hi hd ?_
  rw [hi2]
  exact kk
theorem xs_laload (hd : decode cc pc = .ok (.laload, 1)) : x_Ok ms Z own nm cc nL rt hh pc (xo_ald x_k101 (pc + 1)) := xs_aldW fun d E al0 r p l e R s m args below meth c Q hC ws H locs als k n q0 a i e1 q v rest hP he hk hr hv hi hi2 => by
  obtain ⟨hx, hb, -, ho, hts, hK, -⟩ := hC
  obtain ⟨f, rfl, hf⟩ := x_RC_l hr (Nat.eq_of_beq_eq_true hk)
  refine ⟨.long (f i), hf i v hv, fun kk => ?_⟩
  refine va_lald hx hb hK hP q0 1 he rfl hi hd ?_
  rw [hi2]
  exact kk
theorem xs_aaload (hd : decode cc pc = .ok (.aaload, 1)) : x_Ok ms Z own nm cc nL rt hh pc (xo_ald x_kq (pc + 1)) := xs_aldW fun d E al0 r p l e R s m args below meth c Q hC ws H locs als k n q0 a i e1 q v rest hP he hk hr hv hi hi2 => by
  obtain ⟨hx, hb, -, ho, hts, hK, -⟩ := hC
  have h0 : 103 ≤ q.1 := Nat.le_of_ble_eq_true hk
  obtain ⟨h1, f, rfl, hf⟩ := x_RC_q hr h0
  obtain ⟨ty, ht, hrf⟩ := x_tyq (dA := E.2.1) h0 h1
  refine ⟨va_rf (f i), hf i v hv, fun kk => ?_⟩
  have hlt : (nI i).toNatClampNeg < q.2.length := Nat.not_le.mp fun q => hi (Or.inr q)
  exact W.aald (v := va_rf (f i)) (ty := ty) hx hb (hP q0 _ he) ((hK.2 _ _ ht).1 q.2.length (fun j => va_rf (f j))) hrf (fun q => by cases q) (by show ¬ (nI i < 0 ∨ (arrV _ _ _).slots.size ≤ _); rw [arrV_size]; exact hi) (by show (arrV _ _ _).slots[_]? = _; rw [arrV_read _ _ hlt, hi2]) rfl rfl hd kk
/-- an element written -/
noncomputable def xo_ast (ck : Nat → Bool) (chk : xV → Bool) (nx : Nat) : xO := fun _ c ls st w k n => x_pop st fun v t => x_pop t fun iv t => x_pop t fun av t => x_tag 2 iv fun i => x_tag 1 av fun a => x_if (Nat.blt i 2147483648 && chk v) (x_nth w a fun q => x_if (ck q.1) (x_set v q.2 i fun l' => x_set (q.1, l') w a fun w' => c nx ls t w' k n))
theorem xs_astW {ck : Nat → Bool} {chk : xV → Bool} (row : ∀ (d : Nat) (E : xE) (al0 : List Nat) (r : xT) (p : Program) (l : Launch) (e : Env) (R : Room) (s : State) (m : MethodId) (args : Array Value) (below : List Frame) (meth : Method) (c : Code) (Q : State → Prop), x_Cx own nm cc nL rt hh d Z E al0 r p l e R s m args below meth c Q → ∀ (w : xW) (ws : va_W) (H : Heap) (locs : List Loc) (als : Array Slot) (k n q0 a i : Nat) (e1 : va_E) (q : xC) (v : xV) (V : Value) (rest : List Value), x_Wd E w ws H → va_S (x_A E) s.heap H locs → ws[q0]? = some (a, e1) → ck q.1 = true → x_RC E (x_al ws) q e1 → i < q.2.length → vp_in (nI i) q.2.length → (nI i).toNatClampNeg = i → chk v = true → x_rv E (x_al ws) v V → ∃ e2, x_RC E (x_al ws) (q.1, q.2.set i v) e2 ∧ ((∀ (H1 : Heap) (locs1 : List Loc), va_P E.1 xcl (ws.set q0 (a, e2)) H1 → va_D (x_A E) (ws.set q0 (a, e2)) → va_S (x_A E) s.heap H1 locs1 → W p l e R s m args below meth c H1 locs1 k n Q (F0 m (pc + 1) als rest)) → W p l e R s m args below meth c H locs k n Q (F0 m pc als (V :: .int (nI i) :: .ref a :: rest)))) : x_Ok ms Z own nm cc nL rt hh pc (xo_ast ck chk (pc + 1)) := by
  intro d fn hfn E al0 r p l e R s m args below meth c Q hC cont ih ls st w k n h
  replace h := x_pop_some h
  obtain ⟨v, t, rfl, h⟩ := h
  replace h := x_pop_some h
  obtain ⟨iv, t, rfl, h⟩ := h
  replace h := x_pop_some h
  obtain ⟨av, t, rfl, h⟩ := h
  replace h := x_tag_some h
  obtain ⟨i, rfl, h⟩ := h
  replace h := x_tag_some h
  obtain ⟨b, rfl, h⟩ := h
  obtain ⟨h0, h⟩ := x_if_some h
  obtain ⟨q, h1, h⟩ := x_nth_some h
  obtain ⟨h2, h⟩ := x_if_some h
  obtain ⟨h3, h⟩ := x_set_some h
  obtain ⟨h4, h⟩ := x_set_some h
  have g := ih _ _ _ _ _ _ h
  simp only [Bool.and_eq_true] at h0
  refine ⟨g.1, g.2.1, fun ws H locs als lv vst hW hal hS hl hL hV => ?_⟩
  replace hV := hV.cons
  obtain ⟨V, vst, rfl, hvv, hV⟩ := hV
  replace hV := hV.cons
  obtain ⟨I, vst, rfl, hI, hV⟩ := hV
  replace hV := hV.cons
  obtain ⟨O, vst, rfl, ⟨a, h5, rfl⟩, hV⟩ := hV
  cases hI
  obtain ⟨e1, h6, h7⟩ := hW.1.get h1 h5
  obtain ⟨h8, h9⟩ := x_ix h3 h0.1
  obtain ⟨e2, h10, h11⟩ := row d E al0 r p l e R s m args below meth c Q hC w ws H locs als k n b a i e1 q v V vst hW hS h6 h2 h7 h3 h8 h9 h0.2 hvv
  refine h11 fun H1 locs1 hP hD hS1 => ?_
  have ha := x_al_set (e' := e2) h6
  exact g.2.2 _ H1 locs1 als lv vst ⟨hW.1.set h6 h10, hP, hD⟩ (by rw [ha]; exact hal) hS1 hl (by rw [ha]; exact hL) (by rw [ha]; exact hV)
theorem xs_iastore (hd : decode cc pc = .ok (.iastore, 1)) : x_Ok ms Z own nm cc nL rt hh pc (xo_ast x_k100 x_isI (pc + 1)) := xs_astW fun d E al0 r p l e R s m args below meth c Q hC w ws H locs als k n q0 a i e1 q v V rest hW hS he hk hr hlt hi hi2 hc hv => by
  obtain ⟨hx, hb, -, ho, hts, hK, -⟩ := hC
  have hq : q.1 = 100 := Nat.eq_of_beq_eq_true hk
  obtain ⟨f, rfl, hf⟩ := x_RC_i hr hq
  have e := x_ri_of hc hv
  subst e
  refine ⟨.inl (E.2.1 0, q.2.length, .inl (upd f i (x_ri E.2.2.2.1 v))), Or.inr (Or.inl ⟨hq, _, by rw [List.length_set], fun j u hj => ?_⟩), fun kk => ?_⟩
  · by_cases hij : i = j
    · subst hij
      rw [List.getElem?_set_self hlt] at hj
      cases hj
      simp only [upd, if_true]
      exact hv
    · rw [List.getElem?_set_ne hij] at hj
      simp only [upd, if_neg (fun q : j = i => hij q.symm)]
      exact hf j u hj
  · refine va_iast hx hb hK hW.2.1 hW.2.2 hS q0 0 he rfl hi hd ?_
    rw [hi2]
    exact kk
theorem xs_lastore (hd : decode cc pc = .ok (.lastore, 1)) : x_Ok ms Z own nm cc nL rt hh pc (xo_ast x_k101 (x_isT 3) (pc + 1)) := xs_astW fun d E al0 r p l e R s m args below meth c Q hC w ws H locs als k n q0 a i e1 q v V rest hW hS he hk hr hlt hi hi2 hc hv => by
  obtain ⟨hx, hb, -, ho, hts, hK, -⟩ := hC
  have hq : q.1 = 101 := Nat.eq_of_beq_eq_true hk
  obtain ⟨f, rfl, hf⟩ := x_RC_l hr hq
  obtain ⟨u, rfl⟩ := x_isT_of hc
  have e : V = .long (lN u) := hv
  subst e
  refine ⟨.inl (E.2.1 1, q.2.length, .inr (.inl (vp_updL f i (lN u)))), Or.inr (Or.inr (Or.inl ⟨hq, _, by rw [List.length_set], fun j u2 hj => ?_⟩)), fun kk => ?_⟩
  · by_cases hij : i = j
    · subst hij
      rw [List.getElem?_set_self hlt] at hj
      cases hj
      simp only [vp_updL, if_true]
      exact hv
    · rw [List.getElem?_set_ne hij] at hj
      simp only [vp_updL, if_neg (fun q : j = i => hij q.symm)]
      exact hf j u2 hj
  · refine va_last hx hb hK hW.2.1 hW.2.2 hS q0 1 he rfl hi hd ?_
    rw [hi2]
    exact kk
end XARR
end
section
/-! REFERENCES INTO ARRAYS, LENGTHS, NEW ARRAYS, CASTS, COPIES -/
section XARS
variable {ms : List xM} {Z : xD} {own nm : String} {cc : ByteArray} {nL : Nat} {rt : Option FieldType} {hh : List (Nat × Nat × Nat × Nat)} {pc : Nat}
theorem x_up_some {E : xE} {al : List Nat} {l : List xV} {f : Nat → Option Nat} {i : Nat} {v : xV} {a : Nat} (hlt : i < l.length) (hf : ∀ j u, l[j]? = some u → x_rv E al u (va_rf (f j))) (hv : x_rv E al v (.ref a)) : ∀ j u, (l.set i v)[j]? = some u → x_rv E al u (va_rf (va_up f i (some a) j)) := by
  intro j u hj
  by_cases hij : i = j
  · subst hij
    rw [List.getElem?_set_self hlt] at hj
    cases hj
    simp only [va_up, if_true]
    exact hv
  · rw [List.getElem?_set_ne hij] at hj
    simp only [va_up, if_neg (fun q : j = i => hij q.symm)]
    exact hf j u hj
def x_k103 (k : Nat) : Bool := Nat.beq k 103
def x_k104 (k : Nat) : Bool := Nat.beq k 104
def x_k106 (k : Nat) : Bool := Nat.beq k 106
/-- a reference to a cell, written into an array; what the cell is, is looked up in the world -/
noncomputable def xo_asq (ck ce : Nat → Bool) (nx : Nat) : xO := fun _ c ls st w k n => x_pop st fun v t => x_pop t fun iv t => x_pop t fun av t => x_tag 1 v fun b => x_tag 2 iv fun i => x_tag 1 av fun a => x_if (Nat.blt i 2147483648) (x_nth w b fun qu => x_if (ce qu.1) (x_nth w a fun q => x_if (ck q.1) (x_set v q.2 i fun l' => x_set (q.1, l') w a fun w' => c nx ls t w' k n)))
theorem xs_asqW {ck ce : Nat → Bool} (hck : ∀ k, ck k = true → 103 ≤ k) (row : ∀ (d : Nat) (E : xE) (al0 : List Nat) (r : xT) (p : Program) (l : Launch) (e : Env) (R : Room) (s : State) (m : MethodId) (args : Array Value) (below : List Frame) (meth : Method) (c : Code) (Q : State → Prop), x_Cx own nm cc nL rt hh d Z E al0 r p l e R s m args below meth c Q → ∀ (ws : va_W) (H : Heap) (locs : List Loc) (als : Array Slot) (k n q0 a i qk u kd N : Nat) (eu : va_E) (qu : xC) (rest : List Value) (f : Nat → Option Nat), va_P E.1 xcl ws H → va_D (x_A E) ws → va_S (x_A E) s.heap H locs → 103 ≤ kd → kd < 107 → ws[q0]? = some (a, .inl (E.2.1 (kd - 100), N, .inr (.inr (.inr (.inr f))))) → ck kd = true → vp_in (nI i) N → (nI i).toNatClampNeg = i → ws[qk]? = some (u, eu) → x_RC E (x_al ws) qu eu → ce qu.1 = true →
      (∀ (H1 : Heap) (locs1 : List Loc), va_P E.1 xcl (ws.set q0 (a, .inl (E.2.1 (kd - 100), N, .inr (.inr (.inr (.inr (va_up f i (some u)))))))) H1 → va_D (x_A E) (ws.set q0 (a, .inl (E.2.1 (kd - 100), N, .inr (.inr (.inr (.inr (va_up f i (some u)))))))) → va_S (x_A E) s.heap H1 locs1 → W p l e R s m args below meth c H1 locs1 k n Q (F0 m (pc + 1) als rest)) → W p l e R s m args below meth c H locs k n Q (F0 m pc als (.ref u :: .int (nI i) :: .ref a :: rest))) : x_Ok ms Z own nm cc nL rt hh pc (xo_asq ck ce (pc + 1)) := by
  intro d fn hfn E al0 r p l e R s m args below meth c Q hC cont ih ls st w k n h
  replace h := x_pop_some h
  obtain ⟨v, t, rfl, h⟩ := h
  replace h := x_pop_some h
  obtain ⟨iv, t, rfl, h⟩ := h
  replace h := x_pop_some h
  obtain ⟨av, t, rfl, h⟩ := h
  replace h := x_tag_some h
  obtain ⟨b, rfl, h⟩ := h
  replace h := x_tag_some h
  obtain ⟨i, rfl, h⟩ := h
  replace h := x_tag_some h
  obtain ⟨ai, rfl, h⟩ := h
  obtain ⟨h0, h⟩ := x_if_some h
  obtain ⟨qu, h1, h⟩ := x_nth_some h
  obtain ⟨h2, h⟩ := x_if_some h
  obtain ⟨q, h3, h⟩ := x_nth_some h
  obtain ⟨h4, h⟩ := x_if_some h
  obtain ⟨h5, h⟩ := x_set_some h
  obtain ⟨h6, h⟩ := x_set_some h
  have g := ih _ _ _ _ _ _ h
  refine ⟨g.1, g.2.1, fun ws H locs als lv vst hW hal hS hl hL hV => ?_⟩
  replace hV := hV.cons
  obtain ⟨V, vst, rfl, hvv, hV⟩ := hV
  replace hV := hV.cons
  obtain ⟨I, vst, rfl, hI, hV⟩ := hV
  replace hV := hV.cons
  obtain ⟨O, vst, rfl, ⟨a, h7, rfl⟩, hV⟩ := hV
  have hv2 := hvv
  obtain ⟨u, h8, rfl⟩ := hvv
  cases hI
  obtain ⟨e1, h9, h10⟩ := hW.1.get h3 h7
  obtain ⟨eu, h11, h12⟩ := hW.1.get h1 h8
  obtain ⟨h13, h14⟩ := x_ix h5 h0
  have hk0 := hck _ h4
  obtain ⟨hk1, f, rfl, hf⟩ := x_RC_q h10 hk0
  refine row d E al0 r p l e R s m args below meth c Q hC ws H locs als k n ai a i b u q.1 q.2.length eu qu vst f hW.2.1 hW.2.2 hS hk0 hk1 h9 h4 h13 h14 h11 h12 h2 fun H1 locs1 hP hD hS1 => ?_
  have ha := x_al_set (e' := .inl (E.2.1 (q.1 - 100), q.2.length, .inr (.inr (.inr (.inr (va_up f i (some u))))))) h9
  exact g.2.2 _ H1 locs1 als lv vst ⟨hW.1.set h9 (Or.inr (Or.inr (Or.inr (Or.inr ⟨hk0, hk1, _, by rw [List.length_set], x_up_some h5 hf hv2⟩)))), hP, hD⟩ (by rw [ha]; exact hal) hS1 hl (by rw [ha]; exact hL) (by rw [ha]; exact hV)
/-- a Register into a row of Registers -/
theorem xs_aastR {ce : Nat} {T : u_T} {N : Nat} (hce : ce < 100) (hc : xcl[ce]? = some ("Weightlattice$Register", T, N)) (hd : decode cc pc = .ok (.aastore, 1)) : x_Ok ms Z own nm cc nL rt hh pc (xo_asq x_k106 (fun k => Nat.beq k ce) (pc + 1)) := xs_asqW (fun k hk => by rw [show k = 106 from Nat.eq_of_beq_eq_true hk]; decide) fun d E al0 r p l e R s m args below meth c Q hC ws H locs als k n q0 a i qk u kd N2 eu qu rest f hP hD hS h0 h1 he hk hi hi2 hu hru hcu kk => by
  obtain ⟨hx, hb, -, ho, hts, hK, -⟩ := hC
  have e1 : kd = 106 := Nat.eq_of_beq_eq_true hk
  subst e1
  have e2 : qu.1 = ce := Nat.eq_of_beq_eq_true hcu
  obtain ⟨vs, rfl, -⟩ := x_RC_obj hru (by rw [e2]; exact hce)
  rw [e2] at hu
  refine va_astq hx hb hK hP hD hS q0 6 qk ce he rfl hu hc hi hd ?_
  rw [hi2]
  exact kk
theorem x_nmI {E : xE} {s : State} (hK : va_K E.1 xcl (x_tys E.2.1) s) : s.vm.findClass "[I" = some (E.2.1 0) := (hK.2 0 _ rfl).2
/-- a row of ints into a row of rows -/
theorem xs_aastI (hd : decode cc pc = .ok (.aastore, 1)) : x_Ok ms Z own nm cc nL rt hh pc (xo_asq x_k104 x_k100 (pc + 1)) := xs_asqW (fun k hk => by rw [show k = 104 from Nat.eq_of_beq_eq_true hk]; decide) fun d E al0 r p l e R s m args below meth c Q hC ws H locs als k n q0 a i qk u kd N2 eu qu rest f hP hD hS h0 h1 he hk hi hi2 hu hru hcu kk => by
  obtain ⟨hx, hb, -, ho, hts, hK, hE, -⟩ := hC
  have e1 : kd = 104 := Nat.eq_of_beq_eq_true hk
  subst e1
  obtain ⟨g, rfl, -⟩ := x_RC_i hru (Nat.eq_of_beq_eq_true hcu)
  have hlt : (nI i).toNatClampNeg < N2 := Nat.not_le.mp fun q => hi (Or.inr q)
  have h0 : ¬ nI i < 0 := fun q => hi (Or.inl q)
  obtain ⟨comp, c2, k2, k3, -, k5, k6, k7⟩ := arrayOverA_spec hE.2.2.2.2.1.2.2.1
  have hcA : c2 = E.2.1 4 := Option.some.inj (k7.symm.trans (hK.2 4 _ rfl).2)
  subst hcA
  have hcI : comp = E.2.1 0 := Option.some.inj (k3.symm.trans (x_nmI hK))
  subst hcI
  obtain ⟨kI, hkI, -⟩ := Vm.findClass_spec (x_nmI hK)
  refine W.aast hx hb (hP q0 _ he) (fun q h => by cases h) (fun h => by cases h) k5 k6 rfl hkI ⟨h0, by show _ < (arrV _ _ _).slots.size; rw [arrV_size]; exact hlt⟩ (hP qk _ hu) (fun q h => by cases h) hkI (va_asg _ _) rfl rfl hd fun H1 e z oq => ?_
  refine kk H1 _ (hP.set hD he ?_ oq) (hD.set he) (hS.put z oq (hD.2 q0 _ he))
  show H1[a]? = some (vp_cell _ _)
  rw [e]
  rw [vp_cell_q, vp_cell_q, arrV_store]
  congr 2
  funext q
  by_cases hq : q = i
  · subst hq
    simp [updV, va_up, va_rf, hi2]
  · simp [updV, va_up, hi2, hq]
theorem x_anyI {E : xE} {s : State} {H : Heap} {ws : va_W} {qk u : Nat} {x : vp_A} (hK : va_K E.1 xcl (x_tys E.2.1) s) (hP : va_P E.1 xcl ws H) (hu : ws[qk]? = some (u, .inl (E.2.1 0, x))) (hca : va_Nw (.castable "[I" "java/lang/Object") s) : va_Any "java/lang/Object" s H u := by
  obtain ⟨kI, hkI, -⟩ := Vm.findClass_spec (x_nmI hK)
  obtain ⟨c3, c4, hc3, hc4, hasg⟩ := Cond.castable_spec hca
  have e3 : c3 = E.2.1 0 := Option.some.inj (hc3.symm.trans (x_nmI hK))
  subst e3
  have hcell : H[u]? = some (vp_cell (E.2.1 0) x) := hP qk _ hu
  have hcv : (vp_cell (E.2.1 0) x).cls = E.2.1 0 ∧ (vp_cell (E.2.1 0) x).vm = .none := by
    obtain ⟨n, f | f | f | f | f⟩ := x <;> exact ⟨rfl, rfl⟩
  refine ⟨_, hcell, by rw [hcv.2]; rfl, ⟨kI, by rw [hcv.1]; exact hkI⟩, fun comp hcomp => ?_⟩
  have e4 : comp = c4 := Option.some.inj (hcomp.symm.trans hc4)
  subst e4
  rw [hcv.1]
  exact hasg
/-- a row of ints into a row of objects -/
theorem xs_aastO (hca : ("[I", "java/lang/Object") ∈ Z.2.2.1) (hd : decode cc pc = .ok (.aastore, 1)) : x_Ok ms Z own nm cc nL rt hh pc (xo_asq x_k103 x_k100 (pc + 1)) := xs_asqW (fun k hk => by rw [show k = 103 from Nat.eq_of_beq_eq_true hk]; decide) fun d E al0 r p l e R s m args below meth c Q hC ws H locs als k n q0 a i qk u kd N2 eu qu rest f hP hD hS h0 h1 he hk hi hi2 hu hru hcu kk => by
  obtain ⟨hx, hb, -, ho, hts, hK, hE, -⟩ := hC
  have e1 : kd = 103 := Nat.eq_of_beq_eq_true hk
  subst e1
  obtain ⟨g, rfl, -⟩ := x_RC_i hru (Nat.eq_of_beq_eq_true hcu)
  refine va_astqM hx hb hK hP hD hS q0 3 he rfl (x_anyI hK hP hu (hE.2.2.2.2.2.1.2.2.1 _ hca)) hi hd ?_
  rw [hi2]
  exact kk
/-- lengths -/
noncomputable def xo_alen (L nx : Nat) : xO := fun _ c ls st w k n => x_pop st fun v t => x_br (Nat.beq v.1 1) (x_nth w v.2 fun q => x_if (Nat.ble 100 q.1) (x_fn q.2.length fun z => c nx ls ((2, z) :: t) w k n)) (x_tag 5 v fun j => x_br (Nat.beq j 0) (c nx ls ((2, L) :: t) w k n) (x_if (Nat.beq j 1) (c nx ls ((2, 0) :: t) w k n)))
theorem xs_alen (hd : decode cc pc = .ok (.arraylength, 1)) : x_Ok ms Z own nm cc nL rt hh pc (xo_alen Z.2.2.2.2.2.1 (pc + 1)) := by
  intro d fn hfn E al0 r p l e R s m args below meth c Q hC cont ih ls st w k n h
  replace h := x_pop_some h
  obtain ⟨v, t, rfl, h⟩ := h
  obtain ⟨hx, hb, -, ho, hts, hK, hE, hb0, -⟩ := hC
  cases hv : Nat.beq v.1 1 with
  | true =>
    rw [hv] at h
    obtain ⟨q, h1, h⟩ := x_nth_some h
    obtain ⟨h2, h⟩ := x_if_some h
    rw [x_fn_eq] at h
    have g := ih _ _ _ _ _ _ h
    refine ⟨g.1, g.2.1, fun ws H locs als lv vst hW hal hS hl hL hV => ?_⟩
    replace hV := hV.cons
    obtain ⟨V, vst, rfl, hvv, hV⟩ := hV
    obtain ⟨tv, j⟩ := v
    have e : tv = 1 := Nat.eq_of_beq_eq_true hv
    subst e
    obtain ⟨a, h3, rfl⟩ := hvv
    obtain ⟨e1, h4, h5⟩ := hW.1.get h1 h3
    have h6 : 100 ≤ q.1 := Nat.le_of_ble_eq_true h2
    have kk := g.2.2 ws H locs als lv (.int (nI q.2.length) :: vst) hW hal hS hl hL ⟨rfl, hV⟩
    rcases h5 with ⟨h7, -⟩ | ⟨-, f, rfl, -⟩ | ⟨-, f, rfl, -⟩ | ⟨-, f, rfl, -⟩ | ⟨h7, h8, f, rfl, -⟩
    · omega
    · exact va_alen hx hb hK hW.2.1 j 0 h4 rfl rfl hd kk
    · exact va_alen hx hb hK hW.2.1 j 1 h4 rfl rfl hd kk
    · exact va_alen hx hb hK hW.2.1 j 2 h4 rfl rfl hd kk
    · obtain ⟨ty, ht, -⟩ := x_tyq (dA := E.2.1) h7 h8
      exact va_alen hx hb hK hW.2.1 j _ h4 ht rfl hd kk
  | false =>
    rw [hv] at h
    replace h := x_tag_some (show x_tag 5 v (fun j => x_br (Nat.beq j 0) (cont (pc + 1) ls ((2, Z.2.2.2.2.2.1) :: t) w k n) (x_if (Nat.beq j 1) (cont (pc + 1) ls ((2, 0) :: t) w k n))) = some r from h)
    obtain ⟨j, rfl, h⟩ := h
    cases hj : Nat.beq j 0 with
    | true =>
      rw [hj] at h
      have g := ih _ _ _ _ _ _ h
      refine ⟨g.1, g.2.1, fun ws H locs als lv vst hW hal hS hl hL hV => ?_⟩
      replace hV := hV.cons
      obtain ⟨V, vst, rfl, hvv, hV⟩ := hV
      have e : j = 0 := Nat.eq_of_beq_eq_true hj
      subst e
      have e2 : V = .ref (x_xi E 0) := hvv
      subst e2
      obtain ⟨g1, g2, g3⟩ := hE.2.2.2.2.2.2
      exact va_slen hx hb g1 g3 g2 hS hd (g.2.2 ws H locs als lv (.int (nI Z.2.2.2.2.2.1) :: vst) hW hal hS hl hL ⟨rfl, hV⟩)
    | false =>
      rw [hj] at h
      obtain ⟨h0, h⟩ := x_if_some h
      have g := ih _ _ _ _ _ _ h
      refine ⟨g.1, g.2.1, fun ws H locs als lv vst hW hal hS hl hL hV => ?_⟩
      replace hV := hV.cons
      obtain ⟨V, vst, rfl, hvv, hV⟩ := hV
      have e : j = 1 := Nat.eq_of_beq_eq_true h0
      subst e
      have e2 : V = .ref (x_xi E 1) := hvv
      subst e2
      exact va_tlen hx hb hE.2.1.2 hS (v := nI 0) rfl hd (g.2.2 ws H locs als lv (.int (nI 0) :: vst) hW hal hS hl hL ⟨rfl, hV⟩)
/-- an int of the script -/
noncomputable def xo_sld (L nx : Nat) : xO := fun _ c ls st w k n => x_pop st fun iv t => x_pop t fun av t => x_tag 2 iv fun i => x_tag 5 av fun j => x_if (Nat.beq j 0 && (Nat.blt i 2147483648 && Nat.blt i L)) (c nx ls ((4, i) :: t) w k n)
theorem xs_sld (hd : decode cc pc = .ok (.iaload, 1)) : x_Ok ms Z own nm cc nL rt hh pc (xo_sld Z.2.2.2.2.2.1 (pc + 1)) := by
  intro d fn hfn E al0 r p l e R s m args below meth c Q hC cont ih ls st w k n h
  replace h := x_pop_some h
  obtain ⟨iv, t, rfl, h⟩ := h
  replace h := x_pop_some h
  obtain ⟨av, t, rfl, h⟩ := h
  replace h := x_tag_some h
  obtain ⟨i, rfl, h⟩ := h
  replace h := x_tag_some h
  obtain ⟨j, rfl, h⟩ := h
  obtain ⟨h0, h⟩ := x_if_some h
  simp only [Bool.and_eq_true] at h0
  obtain ⟨hj, hi1, hi2⟩ := h0
  obtain ⟨hx, hb, -, ho, hts, hK, hE, hb0, -⟩ := hC
  have g := ih _ _ _ _ _ _ h
  refine ⟨g.1, g.2.1, fun ws H locs als lv vst hW hal hS hl hL hV => ?_⟩
  replace hV := hV.cons
  obtain ⟨I, vst, rfl, hI, hV⟩ := hV
  replace hV := hV.cons
  obtain ⟨O, vst, rfl, hO, hV⟩ := hV
  have e : j = 0 := Nat.eq_of_beq_eq_true hj
  subst e
  have e1 : I = .int (nI i) := hI
  subst e1
  have e2 : O = .ref (x_xi E 0) := hO
  subst e2
  obtain ⟨g1, g2, g3⟩ := hE.2.2.2.2.2.2
  obtain ⟨h7, h8⟩ := x_ix (Nat.le_of_ble_eq_true hi2 : i < Z.2.2.2.2.2.1) hi1
  refine va_sld hx hb g1 g3 g2 hS h7 hd ?_
  rw [h8]
  exact g.2.2 ws H locs als lv (.int (E.2.2.2.1 i) :: vst) hW hal hS hl hL ⟨rfl, hV⟩
end XARS
end
section
/-! NEW ARRAYS, CASTS, COPIES, CLASS OBJECTS -/
section XARZ
variable {ms : List xM} {Z : xD} {own nm : String} {cc : ByteArray} {nL : Nat} {rt : Option FieldType} {hh : List (Nat × Nat × Nat × Nat)} {pc : Nat}
theorem x_rep {E : xE} {al : List Nat} {N : Nat} {v : xV} {V : Value} (hv : x_rv E al v V) : ∀ (j : Nat) (u : xV), (List.replicate N v)[j]? = some u → x_rv E al u V := by
  intro j u hj
  have := List.mem_of_getElem? hj
  rw [(List.mem_replicate.mp this).2]
  exact hv
/-- new rows of numbers, and of references -/
noncomputable def xo_newa (kd : Nat) (dv : xV) (nx : Nat) : xO := fun _ c ls st w k n => x_pop st fun v t => x_tag 2 v fun m => x_if (Nat.ble m 100000) (x_fn w.length fun i => x_push (kd, List.replicate m dv) w fun w' => x_fn (k + 1) fun k' => x_fn (n + m) fun n' => c nx ls ((1, i) :: t) w' k' n')
theorem xs_newaW {kd nx : Nat} {dv : xV} (row : ∀ (d : Nat) (E : xE) (al0 : List Nat) (r : xT) (p : Program) (l : Launch) (e : Env) (R : Room) (s : State) (m : MethodId) (args : Array Value) (below : List Frame) (meth : Method) (c : Code) (Q : State → Prop), x_Cx own nm cc nL rt hh d Z E al0 r p l e R s m args below meth c Q → ∀ (w : xW) (ws : va_W) (H : Heap) (locs : List Loc) (als : Array Slot) (k n N : Nat) (rest : List Value), x_Wd E w ws H → va_S (x_A E) s.heap H locs → N ≤ 100000 → ¬ nI N < 0 → (nI N).toNatClampNeg = N → k + 1 ≤ R.cells → n + N ≤ R.slots → ∃ e1, (∀ al, x_RC E al (kd, List.replicate N dv) e1) ∧ ((∀ (q : Nat) (H1 : Heap), va_P E.1 xcl (ws ++ [(q, e1)]) H1 → va_D (x_A E) (ws ++ [(q, e1)]) → va_S (x_A E) s.heap H1 locs → W p l e R s m args below meth c H1 locs (k + 1) (n + N) Q (F0 m nx als (.ref q :: rest))) → W p l e R s m args below meth c H locs k n Q (F0 m pc als (.int (nI N) :: rest)))) : x_Ok ms Z own nm cc nL rt hh pc (xo_newa kd dv nx) := by
  intro d fn hfn E al0 r p l e R s m args below meth c Q hC cont ih ls st w k n h
  replace h := x_pop_some h
  obtain ⟨v, t, rfl, h⟩ := h
  replace h := x_tag_some h
  obtain ⟨N, rfl, h⟩ := h
  obtain ⟨h0, h⟩ := x_if_some h
  rw [x_fn_eq, x_push_eq, x_fn_eq, x_fn_eq] at h
  have g := ih _ _ _ _ _ _ h
  have hR := hC.2.2.2.2.2.2.2.2.2.2.2.2.2.1
  refine ⟨Nat.le_trans (Nat.le_succ k) g.1, Nat.le_trans (Nat.le_add_right n N) g.2.1, fun ws H locs als lv vst hW hal hS hl hL hV => ?_⟩
  replace hV := hV.cons
  obtain ⟨V, vst, rfl, hvv, hV⟩ := hV
  cases hvv
  have hN : N ≤ 100000 := Nat.le_of_ble_eq_true h0
  have hN2 : N < 2 ^ 31 := by omega
  obtain ⟨e1, h1, h2⟩ := row d E al0 r p l e R s m args below meth c Q hC w ws H locs als k n N vst hW hS hN (nI_pos hN2) (nI_clamp hN2) (Nat.le_trans g.1 hR.2.2.1) (Nat.le_trans g.2.1 hR.2.2.2)
  refine h2 fun q H1 hP hD hS1 => ?_
  have hp : x_al ws <+: x_al (ws ++ [(q, e1)]) := by rw [x_al_push]; exact List.prefix_append _ _
  exact g.2.2 _ H1 locs als lv _ ⟨hW.1.push (h1 _), hP, hD⟩ (hal.trans hp) hS1 hl (hL.mono hp) ⟨⟨q, x_RW_len hW.1, rfl⟩, hV.mono hp⟩
theorem xs_newI (ha : Cond.arrayClass .int ∈ xTb) (hd : decode cc pc = .ok (.newarray .int, 2)) : x_Ok ms Z own nm cc nL rt hh pc (xo_newa 100 (2, 0) (pc + 2)) := xs_newaW fun d E al0 r p l e R s m args below meth c Q hC w ws H locs als k n N rest hW hS hN h0 hN2 hk hn => by
  obtain ⟨hx, hb, -, ho, hts, hK, hE, hb0, -⟩ := hC
  refine ⟨.inl (E.2.1 0, N, .inl (fun _ => 0)), fun al => Or.inr (Or.inl ⟨rfl, fun _ => 0, by rw [List.length_replicate], x_rep (V := .int 0) rfl⟩), fun kk => ?_⟩
  refine va_newa (atype := .int) (ty := .int) (a0 := (N, .inl (fun _ => 0))) hx hb (hts _ ha) rfl hK hW.2.1 hW.2.2 hS (fun q h => Nat.le_trans hb0 h) (fun cA => rfl) h0 hN2 (Nat.le_trans (Nat.mul_le_mul_right _ hN) (by decide)) hk hn hd fun q cA H1 hK1 hP hD hS1 => ?_
  have e : cA = E.2.1 0 := Option.some.inj ((hK1.2 7 _ rfl).2.symm.trans (hK.2 0 _ rfl).2)
  subst e
  exact kk q H1 hP hD hS1
theorem xs_newJ (ha : Cond.arrayClass .long ∈ xTb) (hd : decode cc pc = .ok (.newarray .long, 2)) : x_Ok ms Z own nm cc nL rt hh pc (xo_newa 101 (3, 0) (pc + 2)) := xs_newaW fun d E al0 r p l e R s m args below meth c Q hC w ws H locs als k n N rest hW hS hN h0 hN2 hk hn => by
  obtain ⟨hx, hb, -, ho, hts, hK, hE, hb0, -⟩ := hC
  refine ⟨.inl (E.2.1 1, N, .inr (.inl (fun _ => 0))), fun al => Or.inr (Or.inr (Or.inl ⟨rfl, fun _ => 0, by rw [List.length_replicate], x_rep (V := .long 0) rfl⟩)), fun kk => ?_⟩
  refine va_newa (atype := .long) (ty := .long) (a0 := (N, .inr (.inl (fun _ => 0)))) hx hb (hts _ ha) rfl hK hW.2.1 hW.2.2 hS (fun q h => Nat.le_trans hb0 h) (fun cA => rfl) h0 hN2 (Nat.le_trans (Nat.mul_le_mul_right _ hN) (by decide)) hk hn hd fun q cA H1 hK1 hP hD hS1 => ?_
  have e : cA = E.2.1 1 := Option.some.inj ((hK1.2 7 _ rfl).2.symm.trans (hK.2 1 _ rfl).2)
  subst e
  exact kk q H1 hP hD hS1
theorem xs_newD (ha : Cond.arrayClass .double ∈ xTb) (hd : decode cc pc = .ok (.newarray .double, 2)) : x_Ok ms Z own nm cc nL rt hh pc (xo_newa 102 (7, 0) (pc + 2)) := xs_newaW fun d E al0 r p l e R s m args below meth c Q hC w ws H locs als k n N rest hW hS hN h0 hN2 hk hn => by
  obtain ⟨hx, hb, -, ho, hts, hK, hE, hb0, -⟩ := hC
  refine ⟨.inl (E.2.1 2, N, .inr (.inr (.inr (.inl (fun _ => 0))))), fun al => Or.inr (Or.inr (Or.inr (Or.inl ⟨rfl, fun _ => 0, by rw [List.length_replicate], x_rep (V := .double 0) rfl⟩))), fun kk => ?_⟩
  refine va_newa (atype := .double) (ty := .double) (a0 := (N, .inr (.inr (.inr (.inl (fun _ => 0)))))) hx hb (hts _ ha) rfl hK hW.2.1 hW.2.2 hS (fun q h => Nat.le_trans hb0 h) (fun cA => rfl) h0 hN2 (Nat.le_trans (Nat.mul_le_mul_right _ hN) (by decide)) hk hn hd fun q cA H1 hK1 hP hD hS1 => ?_
  have e : cA = E.2.1 2 := Option.some.inj ((hK1.2 7 _ rfl).2.symm.trans (hK.2 2 _ rfl).2)
  subst e
  exact kk q H1 hP hD hS1
theorem xs_newO {index : Nat} (hcl : Cond.classLink own index "java/lang/Object" ∈ xTb) (hd : decode cc pc = .ok (.anewarray index, 3)) : x_Ok ms Z own nm cc nL rt hh pc (xo_newa 103 (0, 0) (pc + 3)) := xs_newaW fun d E al0 r p l e R s m args below meth c Q hC w ws H locs als k n N rest hW hS hN h0 hN2 hk hn => by
  obtain ⟨hx, hb, -, ho, hts, hK, hE, hb0, -⟩ := hC
  refine ⟨.inl (E.2.1 3, N, .inr (.inr (.inr (.inr (fun _ => none))))), fun al => Or.inr (Or.inr (Or.inr (Or.inr ⟨(show (103 : Nat) ≤ 103 by decide), (show (103 : Nat) < 107 by decide), fun _ => none, by show (Sum.inl (E.2.1 3, N, _) : va_E) = .inl (E.2.1 3, (List.replicate N _).length, _); rw [List.length_replicate], x_rep (V := .null) rfl⟩))), fun kk => ?_⟩
  refine va_newq hx hb ho (hts _ hcl) hE.2.2.2.2.1.1 hK hW.2.1 hW.2.2 hS (fun q h => Nat.le_trans hb0 h) h0 hN2 (Nat.le_trans (Nat.mul_le_mul_right _ hN) (by decide)) hk hn hd fun q cA H1 hK1 hP hD hS1 => ?_
  obtain ⟨-, -, -, -, -, z1⟩ := (hK1.2 7 _ rfl).2
  obtain ⟨-, -, -, -, -, z2⟩ := (hK.2 3 _ rfl).2
  have e : cA = E.2.1 3 := Option.some.inj (z1.symm.trans z2)
  subst e
  exact kk q H1 hP hD hS1
theorem xs_newR {index : Nat} (hcl : Cond.classLink own index "Weightlattice$Register" ∈ xTb) (hd : decode cc pc = .ok (.anewarray index, 3)) : x_Ok ms Z own nm cc nL rt hh pc (xo_newa 106 (0, 0) (pc + 3)) := xs_newaW fun d E al0 r p l e R s m args below meth c Q hC w ws H locs als k n N rest hW hS hN h0 hN2 hk hn => by
  obtain ⟨hx, hb, -, ho, hts, hK, hE, hb0, -⟩ := hC
  refine ⟨.inl (E.2.1 6, N, .inr (.inr (.inr (.inr (fun _ => none))))), fun al => Or.inr (Or.inr (Or.inr (Or.inr ⟨(show (103 : Nat) ≤ 106 by decide), (show (106 : Nat) < 107 by decide), fun _ => none, by show (Sum.inl (E.2.1 6, N, _) : va_E) = .inl (E.2.1 6, (List.replicate N _).length, _); rw [List.length_replicate], x_rep (V := .null) rfl⟩))), fun kk => ?_⟩
  refine va_newq hx hb ho (hts _ hcl) hE.2.2.2.2.1.2.1 hK hW.2.1 hW.2.2 hS (fun q h => Nat.le_trans hb0 h) h0 hN2 (Nat.le_trans (Nat.mul_le_mul_right _ hN) (by decide)) hk hn hd fun q cA H1 hK1 hP hD hS1 => ?_
  obtain ⟨-, -, -, -, -, z1⟩ := (hK1.2 7 _ rfl).2
  obtain ⟨-, -, -, -, -, z2⟩ := (hK.2 6 _ rfl).2
  have e : cA = E.2.1 6 := Option.some.inj (z1.symm.trans z2)
  subst e
  exact kk q H1 hP hD hS1
/-- rows of rows -/
noncomputable def x_rng {β : Type} (N : Nat) : Nat → (List xV → Option β) → Option β := Nat.rec (motive := fun _ => Nat → (List xV → Option β) → Option β) (fun _ kk => kk []) (fun _ ih i kk => x_fn i fun i' => ih (i' + 1) fun t => kk ((1, i') :: t)) N
theorem x_rng_eq {β : Type} {N : Nat} : ∀ {i : Nat} {kk : List xV → Option β}, x_rng N i kk = kk ((List.range N).map fun j => (1, i + j)) := by
  induction N with
  | zero => intro i kk; rfl
  | succ N ih =>
    intro i kk
    have h : x_rng (N + 1) i kk = x_fn i fun i' => x_rng N (i' + 1) fun t => kk ((1, i') :: t) := rfl
    rw [h, x_fn_eq, ih, List.range_succ_eq_map, List.map_cons, List.map_map]
    congr 3
    funext j
    show (1, i + 1 + j) = (1, i + (j + 1))
    congr 1
    omega
noncomputable def x_reps {α β : Type} (v : α) (N : Nat) : (List α → Option β) → Option β := Nat.rec (motive := fun _ => (List α → Option β) → Option β) (fun kk => kk []) (fun _ ih kk => ih fun t => kk (v :: t)) N
theorem x_reps_eq {α β : Type} {v : α} {N : Nat} : ∀ {kk : List α → Option β}, x_reps v N kk = kk (List.replicate N v) := by
  induction N with
  | zero => intro kk; rfl
  | succ N ih =>
    intro kk
    have h : x_reps v (N + 1) kk = x_reps v N fun t => kk (v :: t) := rfl
    rw [h, ih]
    rfl
noncomputable def x_app {α β : Type} (l : List α) (w : List α) : (List α → Option β) → Option β := List.rec (motive := fun _ => (List α → Option β) → Option β) (fun k => k l) (fun a _ ih k => ih (fun t' => k (a :: t'))) w
theorem x_app_eq {α β : Type} {l w : List α} {k : List α → Option β} : x_app l w k = k (w ++ l) := by
  induction w generalizing k with
  | nil => rfl
  | cons a t ih => exact ih (k := fun t' => k (a :: t'))
theorem x_RW_app {E : xE} {w cs : xW} {ws es : va_W} (h : x_RW E w ws) (hl : cs.length = es.length) (hc : ∀ (i : Nat) (c : xC) (q : Nat × va_E), cs[i]? = some c → es[i]? = some q → x_RC E (x_al (ws ++ es)) c q.2) : x_RW E (w ++ cs) (ws ++ es) := by
  refine ⟨by rw [List.length_append, List.length_append, h.1, hl], fun j c2 q hj hq => ?_⟩
  by_cases hlt : j < ws.length
  · rw [List.getElem?_append_left (by rw [h.1]; exact hlt)] at hj
    rw [List.getElem?_append_left hlt] at hq
    exact (h.2 j c2 q hj hq).mono (by rw [x_al, x_al, List.map_append]; exact List.prefix_append _ _)
  · rw [List.getElem?_append_right (by rw [h.1]; omega)] at hj
    rw [List.getElem?_append_right (by omega)] at hq
    rw [h.1] at hj
    exact hc _ c2 q hj hq
noncomputable def xo_mna (ko ki : Nat) (dv : xV) (nx : Nat) : xO := fun _ c ls st w k n => x_pop st fun kv t => x_pop t fun nv t => x_tag 2 kv fun K => x_tag 2 nv fun N => x_if (Nat.ble K 10000 && Nat.ble N 10000) (x_fn w.length fun i => x_rng N (i + 1) fun refs => x_reps (ki, List.replicate K dv) N fun rows => x_app ((ko, refs) :: rows) w fun w' => x_fn (k + 1 + N) fun k' => x_fn (n + N + N * K) fun n' => c nx ls ((1, i) :: t) w' k' n')
theorem xs_mnaW {ko ki di dz : Nat} {dv : xV} {ty : FieldType} {z : Nat → vp_A} {index : Nat} (hko : 103 ≤ ko ∧ ko < 107) (hto : ∀ dA : Nat → ClassId, (x_tys dA)[ko - 100]? = some (dA (ko - 100), .array ty)) (hcl : Cond.classLink own index ("[" ++ (FieldType.array ty).toString) ∈ xTb) (har : Cond.arrayClass ty ∈ xTb) (hov : ∀ (E : xE) (s : State), x_EnD Z E s s.heap → va_AOA ty s) (hcy : ∀ (E : xE) (s : State), va_K E.1 xcl (x_tys E.2.1) s → s.vm.findClass (FieldType.array ty).toString = some (E.2.1 di)) (hcb : componentBytes ty ≤ 8) (hdf : fits ty (defaultValue ty) = true) (hdd : (defaultValue ty).isDefault = true) (hz : ∀ (K : Nat) (c : ClassId), Jvm.Free.Multi.innerC c K (defaultValue ty) = vp_cell c (z K))
    (hrc : ∀ (E : xE) (al : List Nat) (K : Nat), x_RC E al (ki, List.replicate K dv) (.inl (E.2.1 di, z K))) (hd : decode cc pc = .ok (.multianewarray index 2, 4)) : x_Ok ms Z own nm cc nL rt hh pc (xo_mna ko ki dv (pc + 4)) := by
  intro d fn hfn E al0 r p l e R s m args below meth c Q hC cont ih ls st w k n h
  replace h := x_pop_some h
  obtain ⟨kv, t, rfl, h⟩ := h
  replace h := x_pop_some h
  obtain ⟨nv, t, rfl, h⟩ := h
  replace h := x_tag_some h
  obtain ⟨K, rfl, h⟩ := h
  replace h := x_tag_some h
  obtain ⟨N, rfl, h⟩ := h
  obtain ⟨h0, h⟩ := x_if_some h
  rw [x_fn_eq, x_rng_eq, x_reps_eq, x_app_eq, x_fn_eq, x_fn_eq] at h
  have g := ih _ _ _ _ _ _ h
  simp only [Bool.and_eq_true] at h0
  have hK9 : K ≤ 10000 := Nat.le_of_ble_eq_true h0.1
  have hN9 : N ≤ 10000 := Nat.le_of_ble_eq_true h0.2
  obtain ⟨hx, hb, -, ho, hts, hK, hE, hb0, -, -, -, -, -, ⟨-, -, hR1, hR2⟩, -⟩ := hC
  refine ⟨Nat.le_trans (by omega) g.1, Nat.le_trans (by omega) g.2.1, fun ws H locs als lv vst hW hal hS hl hL hV => ?_⟩
  replace hV := hV.cons
  obtain ⟨KV, vst, rfl, hkv, hV⟩ := hV
  replace hV := hV.cons
  obtain ⟨NV, vst, rfl, hnv, hV⟩ := hV
  cases hkv
  cases hnv
  have g1 : k + 1 + N ≤ R.cells := Nat.le_trans g.1 hR1
  have g2 : n + N + N * K ≤ R.slots := Nat.le_trans g.2.1 hR2
  have hKb : K * componentBytes ty ≤ 536870912 := Nat.le_trans (Nat.mul_le_mul hK9 hcb) (by decide)
  refine va_mna (X := ws) (L := []) (f := fun _ => .inl (0, 0, .inl (fun _ => 0))) (ty := ty) (cy := E.2.1 di) (z := z K) hx hb ho (hts _ hcl) (hov E s hE) (hts _ har) (hcy E s hK) hK (by rw [show va_pl ([] : List Nat) _ = [] from rfl, List.append_nil]; exact hW.2.1) (by rw [show va_pl ([] : List Nat) _ = [] from rfl, List.append_nil]; exact hW.2.2) hS (fun q h => Nat.le_trans hb0 h) (nI_pos (by omega)) (nI_pos (by omega)) (nI_clamp (by omega)) (nI_clamp (by omega)) (by omega) hKb (by omega) hdf hdd (by omega) (by omega) (hz K) hd fun q rr cA H1 hinj hnin hK1 hP hD hS1 => ?_
  have e : cA = E.2.1 (ko - 100) := by
    have z1 := (hK1.2 7 _ rfl).2
    have z2 := (hK.2 _ _ (hto E.2.1)).2
    exact Option.some.inj (z1.symm.trans z2)
  subst e
  have hes : va_pl ([] ++ (List.range N).map rr) (vr_up (fun _ => (.inl (0, 0, .inl (fun _ => 0)) : va_E)) ((List.range N).map rr) (.inl (E.2.1 di, z K))) = ((List.range N).map rr).map fun a => (a, (.inl (E.2.1 di, z K) : va_E)) := by
    unfold va_pl
    rw [List.nil_append]
    apply List.map_congr_left
    intro a ha
    rw [vr_up_in ha]
  rw [hes, List.append_assoc] at hP hD
  generalize hge : ([(q, (.inl (E.2.1 (ko - 100), N, .inr (.inr (.inr (.inr (fun i => if i < N then some (rr i) else none))))) : va_E))] ++ ((List.range N).map rr).map fun a => (a, (.inl (E.2.1 di, z K) : va_E)) : va_W) = es at hP hD
  have hal1 : x_al (ws ++ es) = x_al ws ++ (q :: (List.range N).map rr) := by
    rw [← hge, x_al, List.map_append, List.map_append, List.map_map]
    simp
  have hpre : x_al ws <+: x_al (ws ++ es) := by rw [hal1]; exact List.prefix_append _ _
  have hwl : (x_al ws).length = w.length := by rw [List.length_map, hW.1.1]
  have hq : (x_al (ws ++ es))[w.length]? = some q := by
    rw [hal1, List.getElem?_append_right (by omega), hwl, Nat.sub_self]
    rfl
  refine g.2.2 _ H1 locs als lv _ ⟨?_, hP, hD⟩ (hal.trans hpre) hS1 hl (hL.mono hpre) ⟨⟨q, hq, rfl⟩, hV.mono hpre⟩
  refine x_RW_app hW.1 (by rw [← hge]; simp) fun i c2 q2 hi hq2 => ?_
  cases i with
  | zero =>
    rw [← hge] at hq2
    cases hi
    cases hq2
    refine Or.inr (Or.inr (Or.inr (Or.inr ⟨hko.1, hko.2, fun i => if i < N then some (rr i) else none, by simp, fun j v hj => ?_⟩)))
    have hjN : j < N := by
      have := (List.getElem?_eq_some_iff.mp hj).1
      simpa using this
    rw [List.getElem?_map, List.getElem?_range hjN] at hj
    cases hj
    simp only [if_pos hjN]
    refine ⟨rr j, ?_, rfl⟩
    rw [hal1, List.getElem?_append_right (by omega), hwl, show w.length + 1 + j - w.length = j + 1 by omega, List.getElem?_cons_succ, List.getElem?_map, List.getElem?_range hjN]
    rfl
  | succ i =>
    rw [← hge] at hq2
    have hi2 : (List.replicate N (ki, List.replicate K dv))[i]? = some c2 := hi
    have hc2 : c2 = (ki, List.replicate K dv) := (List.mem_replicate.mp (List.mem_of_getElem? hi2)).2
    have hq3 : (((List.range N).map rr).map fun a => (a, (.inl (E.2.1 di, z K) : va_E)))[i]? = some q2 := hq2
    obtain ⟨a, -, ha⟩ := List.mem_map.mp (List.mem_of_getElem? hq3)
    subst hc2
    rw [← ha]
    exact hrc E _ K
end XARZ
end
section
/-! GRIDS OF NUMBERS, CLONES, CASTS, COPIES, CLASS OBJECTS, REFERENCES COMPARED -/
section XARY
variable {ms : List xM} {Z : xD} {own nm : String} {cc : ByteArray} {nL : Nat} {rt : Option FieldType} {hh : List (Nat × Nat × Nat × Nat)} {pc : Nat}
theorem xs_mnaI {index : Nat} (hcl : Cond.classLink own index "[[I" ∈ xTb) (har : Cond.arrayClass .int ∈ xTb) (hd : decode cc pc = .ok (.multianewarray index 2, 4)) : x_Ok ms Z own nm cc nL rt hh pc (xo_mna 104 100 (2, 0) (pc + 4)) := xs_mnaW (di := 0) (dz := 0) (ty := .int) (z := fun K => (K, .inl (fun _ => 0))) ⟨by decide, by decide⟩ (fun dA => rfl) hcl har (fun E s h => h.2.2.2.2.1.2.2.1) (fun E s h => x_nmI h) (by decide) rfl rfl (fun K c => arrV_new c K _) (fun E al K => Or.inr (Or.inl ⟨rfl, fun _ => 0, by simp, x_rep (V := .int 0) rfl⟩)) hd
theorem xs_mnaJ {index : Nat} (hcl : Cond.classLink own index "[[J" ∈ xTb) (har : Cond.arrayClass .long ∈ xTb) (hd : decode cc pc = .ok (.multianewarray index 2, 4)) : x_Ok ms Z own nm cc nL rt hh pc (xo_mna 105 101 (3, 0) (pc + 4)) := xs_mnaW (di := 1) (dz := 0) (ty := .long) (z := fun K => (K, .inr (.inl (fun _ => 0)))) ⟨by decide, by decide⟩ (fun dA => rfl) hcl har (fun E s h => h.2.2.2.2.1.2.2.2.1) (fun E s h => (h.2 1 _ rfl).2) (by decide) rfl rfl (fun K c => arrV_new c K _) (fun E al K => Or.inr (Or.inr (Or.inl ⟨rfl, fun _ => 0, by simp, x_rep (V := .long 0) rfl⟩))) hd
def x_cat (st : List xV) : Nat := match st with
  | [] => 0
  | v :: t => (if x_c1 v then 1 else 2) + x_cat t
theorem x_cat_le {E : xE} {al : List Nat} : ∀ {st : List xV} {vst : List Value}, x_RS E al st vst → (vst.map fun v => v.category).sum ≤ x_cat st
  | [], [], _ => Nat.le_refl _
  | v :: t, V :: m, h => by
    have h1 := x_cat_le (st := t) (vst := m) h.2
    have h2 : V.category ≤ (if x_c1 v then 1 else 2) := by
      cases hc : x_c1 v with
      | true => simp [x_c1_cat hc h.1]
      | false => rcases lv_cat V with h | h <;> simp [h]
    show (V.category + (m.map fun v => v.category).sum) ≤ _
    simp only [x_cat]
    omega
  | [], _ :: _, h => False.elim h
  | _ :: _, [], h => False.elim h
/-- a copy of a row of ints -/
noncomputable def xo_cln (nx : Nat) : xO := fun _ c ls st w k n => x_pop st fun v t => x_tag 1 v fun a => x_nth w a fun q => x_if (Nat.beq q.1 100 && Nat.ble (x_cat t) 8) (x_fn w.length fun i => x_push q w fun w' => x_fn (k + 1) fun k' => x_fn (n + q.2.length) fun n' => c nx ls ((1, i) :: t) w' k' n')
theorem xs_cln {index : Nat} (hlk : Cond.methodLink own index ⟨"[I", "clone", "()Ljava/lang/Object;"⟩ ∈ xTb) (hsm : Cond.sameMethod "[I" "java/lang/Object" "clone" "()Ljava/lang/Object;" ∈ xTb) (hnt : Cond.native ⟨"java/lang/Object", "clone", "()Ljava/lang/Object;"⟩ ∈ xTb) (him : Cond.instanceMethod ⟨"java/lang/Object", "clone", "()Ljava/lang/Object;"⟩ ∈ xTb) (hse : Cond.selects "[I" ⟨"[I", "clone", "()Ljava/lang/Object;"⟩ ⟨"java/lang/Object", "clone", "()Ljava/lang/Object;"⟩ ∈ xTb) (hca : ("[I", "java/lang/Cloneable") ∈ Z.2.2.1) (hd : decode cc pc = .ok (.invokevirtual index, 3)) : x_Ok ms Z own nm cc nL rt hh pc (xo_cln (pc + 3)) := by
  intro d fn hfn E al0 r p l e R s m args below meth c Q hC cont ih ls st w k n h
  replace h := x_pop_some h
  obtain ⟨v, t, rfl, h⟩ := h
  replace h := x_tag_some h
  obtain ⟨b, rfl, h⟩ := h
  obtain ⟨q, h1, h⟩ := x_nth_some h
  obtain ⟨h0, h⟩ := x_if_some h
  rw [x_fn_eq, x_push_eq, x_fn_eq, x_fn_eq] at h
  have g := ih _ _ _ _ _ _ h
  simp only [Bool.and_eq_true] at h0
  obtain ⟨hx, hb, hml, ho, hts, hK, hE, hb0, -, -, -, -, -, ⟨hR3, hR4, hR1, hR2⟩, -⟩ := hC
  refine ⟨Nat.le_trans (Nat.le_succ k) g.1, Nat.le_trans (Nat.le_add_right n _) g.2.1, fun ws H locs als lv vst hW hal hS hl hL hV => ?_⟩
  replace hV := hV.cons
  obtain ⟨V, vst, rfl, ⟨a, h2, rfl⟩, hV⟩ := hV
  obtain ⟨e1, h3, h4⟩ := hW.1.get h1 h2
  have hq : q.1 = 100 := Nat.eq_of_beq_eq_true h0.1
  have hct : (vst.map fun v => v.category).sum ≤ 8 := Nat.le_trans (x_cat_le hV) (Nat.le_of_ble_eq_true h0.2)
  have h4' := h4
  obtain ⟨f, rfl, hf⟩ := x_RC_i h4 hq
  refine va_clone hx hb (hml.trans hl.1.symm) ho (hts _ hlk) (hts _ hsm) (hts _ hnt) (hts _ him) (hts _ hse) (hE.2.2.2.2.2.1.2.2.1 _ hca) hK hW.2.1 hW.2.2 hS (fun q h => Nat.le_trans hb0 h) b 0 h3 rfl (x_nmI hK) (fun i v hv => ?_) (by omega) (by omega) (Nat.le_trans g.1 hR1) (Nat.le_trans g.2.1 hR2) hd fun q1 H1 hK1 hP hD hS1 => ?_
  · rw [vp_cell_i] at hv
    have hi : i < q.2.length := by
      have := (Array.getElem?_eq_some_iff.mp hv).1
      rwa [arrV_size] at this
    rw [arrV_read _ _ hi] at hv
    cases hv
    rfl
  · have hp : x_al ws <+: x_al (ws ++ [(q1, (.inl (E.2.1 0, q.2.length, .inl f) : va_E))]) := by rw [x_al_push]; exact List.prefix_append _ _
    exact g.2.2 _ H1 locs als lv _ ⟨hW.1.push (h4'.mono hp), hP, hD⟩ (hal.trans hp) hS1 hl (hL.mono hp) ⟨⟨q1, x_RW_len hW.1, rfl⟩, hV.mono hp⟩
/-- a cast of a row of ints to what it is -/
noncomputable def xo_cst (nx : Nat) : xO := fun _ c ls st w k n => x_pop st fun v t => x_tag 1 v fun a => x_nth w a fun q => x_if (Nat.beq q.1 100) (c nx ls (v :: t) w k n)
theorem xs_cst {index : Nat} (hcl : Cond.classLink own index "[I" ∈ xTb) (hd : decode cc pc = .ok (.checkcast index, 3)) : x_Ok ms Z own nm cc nL rt hh pc (xo_cst (pc + 3)) := by
  intro d fn hfn E al0 r p l e R s m args below meth c Q hC cont ih ls st w k n h
  replace h := x_pop_some h
  obtain ⟨v, t, rfl, h⟩ := h
  replace h := x_tag_some h
  obtain ⟨b, rfl, h⟩ := h
  obtain ⟨q, h1, h⟩ := x_nth_some h
  obtain ⟨h0, h⟩ := x_if_some h
  have g := ih _ _ _ _ _ _ h
  obtain ⟨hx, hb, hml, ho, hts, hK, -⟩ := hC
  refine ⟨g.1, g.2.1, fun ws H locs als lv vst hW hal hS hl hL hV => ?_⟩
  have kk := g.2.2 ws H locs als lv vst hW hal hS hl hL hV
  replace hV := hV.cons
  obtain ⟨V, vst, rfl, ⟨a, h2, rfl⟩, hV⟩ := hV
  obtain ⟨e1, h3, h4⟩ := hW.1.get h1 h2
  obtain ⟨f, rfl, hf⟩ := x_RC_i h4 (Nat.eq_of_beq_eq_true h0)
  exact va_castA hx hb ho (hts _ hcl) hW.2.1 b h3 (x_nmI hK) hd kk
/-- an int constant of the pool -/
theorem xs_ldcI {index z : Nat} {v : Int32} (hw : Cond.constant own index v ∈ xTb) (hv : v = nI z) (hd : decode cc pc = .ok (.ldc index, 2)) : x_Ok ms Z own nm cc nL rt hh pc (xo_push (2, z) (pc + 2)) :=
  x_lift fun fn cont ls st w k n r h => ⟨_, _, h, fun E al vst hF hV => ⟨.int (nI z) :: vst, ⟨rfl, hV⟩, fun p l e R s m args below meth c H locs k n Q als hx hb ho hts kk => lv_ldc hx hb ho (hts _ hw) hd (by rw [hv]; exact kk)⟩⟩
/-- the class object of the rows of objects -/
theorem xs_ldcM {index : Nat} (hcl : Cond.classLink own index "[Ljava/lang/Object;" ∈ xTb) (hd : decode cc pc = .ok (.ldc index, 2)) : x_Ok ms Z own nm cc nL rt hh pc (xo_push (5, 2) (pc + 2)) := by
  intro d fn hfn E al0 r p l e R s m args below meth c Q hC cont ih ls st w k n h
  have g := ih _ _ _ _ _ _ h
  obtain ⟨hx, hb, -, ho, hts, hK, hE, -⟩ := hC
  refine ⟨g.1, g.2.1, fun ws H locs als lv vst hW hal hS hl hL hV => ?_⟩
  exact va_ldcM hx hb ho (hts _ hcl) hE.2.2.2.1.1 hd (g.2.2 ws H locs als lv (.ref (x_xi E 2) :: vst) hW hal hS hl hL ⟨rfl, hV⟩)
noncomputable def xo_gcl (nx : Nat) : xO := fun _ c ls st w k n => x_pop st fun v t => x_tag 1 v fun a => x_nth w a fun q => x_if (Nat.beq q.1 103 && Nat.ble (x_cat t) 8) (c nx ls ((5, 2) :: t) w k n)
theorem xs_gcl {index : Nat} (hlk : Cond.methodLink own index ⟨"java/lang/Object", "getClass", "()Ljava/lang/Class;"⟩ ∈ xTb) (hse : Cond.selects "[Ljava/lang/Object;" ⟨"java/lang/Object", "getClass", "()Ljava/lang/Class;"⟩ ⟨"java/lang/Object", "getClass", "()Ljava/lang/Class;"⟩ ∈ xTb) (him : Cond.instanceMethod ⟨"java/lang/Object", "getClass", "()Ljava/lang/Class;"⟩ ∈ xTb) (hnt : Cond.native ⟨"java/lang/Object", "getClass", "()Ljava/lang/Class;"⟩ ∈ xTb) (hd : decode cc pc = .ok (.invokevirtual index, 3)) : x_Ok ms Z own nm cc nL rt hh pc (xo_gcl (pc + 3)) := by
  intro d fn hfn E al0 r p l e R s m args below meth c Q hC cont ih ls st w k n h
  replace h := x_pop_some h
  obtain ⟨v, t, rfl, h⟩ := h
  replace h := x_tag_some h
  obtain ⟨b, rfl, h⟩ := h
  obtain ⟨q, h1, h⟩ := x_nth_some h
  obtain ⟨h0, h⟩ := x_if_some h
  simp only [Bool.and_eq_true] at h0
  have g := ih _ _ _ _ _ _ h
  obtain ⟨hx, hb, hml, ho, hts, hK, hE, hb0, -, -, -, -, -, ⟨hR3, hR4, hR1, hR2⟩, -⟩ := hC
  refine ⟨g.1, g.2.1, fun ws H locs als lv vst hW hal hS hl hL hV => ?_⟩
  replace hV := hV.cons
  obtain ⟨V, vst, rfl, ⟨a, h2, rfl⟩, hV⟩ := hV
  obtain ⟨e1, h3, h4⟩ := hW.1.get h1 h2
  have hq : q.1 = 103 := Nat.eq_of_beq_eq_true h0.1
  have hct : (vst.map fun v => v.category).sum ≤ 8 := Nat.le_trans (x_cat_le hV) (Nat.le_of_ble_eq_true h0.2)
  obtain ⟨-, f, rfl, hf⟩ := x_RC_q h4 (by omega)
  have hnm : s.vm.findClass "[Ljava/lang/Object;" = some (E.2.1 (q.1 - 100)) := by
    rw [hq]
    exact va_nmO (C := "java/lang/Object") (hK.2 3 _ rfl).2 (by decide)
  exact va_getC hx hb (hml.trans hl.1.symm) ho (hts _ hlk) (va_Dc.use hE.2.2.2.2.1.2.2.2.2) (hts _ hse) (hts _ him) (hts _ hnt) hE.2.2.2.1.1 ⟨_, hW.2.1 b _ h3, rfl, hnm⟩ (by omega) (by omega) hd (g.2.2 ws H locs als lv (.ref (x_xi E 2) :: vst) hW hal hS hl hL ⟨rfl, hV⟩)
/-- references compared: the same name, or a cell against the empty row -/
noncomputable def xo_acm (ts tn : Nat) : xO := fun _ c ls st w k n => x_pop st fun y t => x_pop t fun x t => x_br ((Nat.beq x.1 1 || Nat.beq x.1 5) && (Nat.beq x.1 y.1 && Nat.beq x.2 y.2)) (c ts ls t w k n) (x_if (Nat.beq x.1 1 && (Nat.beq y.1 5 && Nat.beq y.2 1)) (c tn ls t w k n))
theorem xs_acmW {ts tn : Nat} (row : ∀ (p : Program) (l : Launch) (e : Env) (R : Room) (s : State) (m : MethodId) (args : Array Value) (below : List Frame) (meth : Method) (c : Code) (H : Heap) (locs : List Loc) (k n : Nat) (Q : State → Prop) (als : Array Slot) (x y : Nat) (rest : List Value), p.tables.exec = Jvm.exec → c.code = cc → (x = y → W p l e R s m args below meth c H locs k n Q (F0 m ts als rest)) → (¬ x = y → W p l e R s m args below meth c H locs k n Q (F0 m tn als rest)) → W p l e R s m args below meth c H locs k n Q (F0 m pc als (.ref y :: .ref x :: rest))) : x_Ok ms Z own nm cc nL rt hh pc (xo_acm ts tn) := by
  intro d fn hfn E al0 r p l e R s m args below meth c Q hC cont ih ls st w k n h
  replace h := x_pop_some h
  obtain ⟨y, t, rfl, h⟩ := h
  replace h := x_pop_some h
  obtain ⟨x, t, rfl, h⟩ := h
  obtain ⟨hx, hb, hml, ho, hts, hK, hE, -⟩ := hC
  obtain ⟨tx, jx⟩ := x
  obtain ⟨ty, jy⟩ := y
  cases hc : ((Nat.beq tx 1 || Nat.beq tx 5) && (Nat.beq tx ty && Nat.beq jx jy)) with
  | true =>
    have h' : x_br ((Nat.beq tx 1 || Nat.beq tx 5) && (Nat.beq tx ty && Nat.beq jx jy)) (cont ts ls t w k n) (x_if (Nat.beq tx 1 && (Nat.beq ty 5 && Nat.beq jy 1)) (cont tn ls t w k n)) = some r := h
    rw [hc] at h'
    have g := ih _ _ _ _ _ _ h'
    simp only [Bool.and_eq_true, Bool.or_eq_true] at hc
    obtain ⟨h1, h2, h3⟩ := hc
    have e1 := Nat.eq_of_beq_eq_true h2
    have e2 := Nat.eq_of_beq_eq_true h3
    subst e1
    subst e2
    refine ⟨g.1, g.2.1, fun ws H locs als lv vst hW hal hS hl hL hV => ?_⟩
    replace hV := hV.cons
    obtain ⟨Y, vst, rfl, hY, hV⟩ := hV
    replace hV := hV.cons
    obtain ⟨X, vst, rfl, hX, hV⟩ := hV
    have key : ∃ a, Y = .ref a ∧ X = .ref a := by
      rcases h1 with h1 | h1
      · have e : tx = 1 := Nat.eq_of_beq_eq_true h1
        subst e
        obtain ⟨a, k1, rfl⟩ := hY
        obtain ⟨a2, k2, rfl⟩ := hX
        rw [k1] at k2
        cases k2
        exact ⟨a, rfl, rfl⟩
      · have e : tx = 5 := Nat.eq_of_beq_eq_true h1
        subst e
        exact ⟨_, hY, hX⟩
    obtain ⟨a, rfl, rfl⟩ := key
    exact row p l e R s m args below meth c H locs k n Q als a a vst hx hb (fun _ => g.2.2 ws H locs als lv vst hW hal hS hl hL hV) (fun q => absurd rfl q)
  | false =>
    have h' : x_br ((Nat.beq tx 1 || Nat.beq tx 5) && (Nat.beq tx ty && Nat.beq jx jy)) (cont ts ls t w k n) (x_if (Nat.beq tx 1 && (Nat.beq ty 5 && Nat.beq jy 1)) (cont tn ls t w k n)) = some r := h
    rw [hc] at h'
    obtain ⟨h0, h'⟩ := x_if_some (b := Nat.beq tx 1 && (Nat.beq ty 5 && Nat.beq jy 1)) h'
    have g := ih _ _ _ _ _ _ h'
    simp only [Bool.and_eq_true] at h0
    obtain ⟨h1, h2, h3⟩ := h0
    have e1 := Nat.eq_of_beq_eq_true h1
    have e2 := Nat.eq_of_beq_eq_true h2
    have e3 := Nat.eq_of_beq_eq_true h3
    subst e1
    subst e2
    subst e3
    refine ⟨g.1, g.2.1, fun ws H locs als lv vst hW hal hS hl hL hV => ?_⟩
    replace hV := hV.cons
    obtain ⟨Y, vst, rfl, hY, hV⟩ := hV
    replace hV := hV.cons
    obtain ⟨X, vst, rfl, ⟨a, k1, rfl⟩, hV⟩ := hV
    have e4 : Y = .ref (x_xi E 1) := hY
    subst e4
    refine row p l e R s m args below meth c H locs k n Q als a (x_xi E 1) vst hx hb (fun q => ?_) (fun q => g.2.2 ws H locs als lv vst hW hal hS hl hL hV)
    obtain ⟨cellT, -, -, -, -, -, -, hnA⟩ := hE.2.1.2
    exfalso
    apply hnA
    rw [← q]
    rw [List.getElem?_map] at k1
    cases hw : ws[jx]? with
    | none => rw [hw] at k1; cases k1
    | some z =>
      rw [hw] at k1
      have e5 : z.1 = a := Option.some.inj k1
      rw [← e5]
      exact hW.2.2.2 jx z hw
theorem xs_acm_eq {off : Int} {tg : Nat} (hd : decode cc pc = .ok (.if_acmp .eq off, 3)) (ht : (pc : Int) + off = (tg : Int)) : x_Ok ms Z own nm cc nL rt hh pc (xo_acm tg (pc + 3)) := xs_acmW fun p l e R s m args below meth c H locs k n Q als x y rest hx hb ke kn => lv_acmp_eq (rx := some x) (ry := some y) hx hb hd ht (fun q => ke (Option.some.inj q)) (fun q => kn fun q2 => q (congrArg some q2))
theorem xs_acm_ne {off : Int} {tg : Nat} (hd : decode cc pc = .ok (.if_acmp .ne off, 3)) (ht : (pc : Int) + off = (tg : Int)) : x_Ok ms Z own nm cc nL rt hh pc (xo_acm (pc + 3) tg) := xs_acmW fun p l e R s m args below meth c H locs k n Q als x y rest hx hb ke kn => lv_acmp_ne (rx := some x) (ry := some y) hx hb hd ht (fun q => kn fun q2 => q (congrArg some q2)) (fun q => ke (Option.some.inj q))
end XARY
end
section
/-! CALLS -/
section XCALL
variable {p : Program} {l : Launch} {e : Env} {R : Room} {s : State} {m : MethodId} {args : Array Value} {below : List Frame} {meth : Method} {c : Code} {H : Heap} {locs : List Loc} {cells slots : Nat} {Q : State → Prop}
/-- a call of dp bytes, that returns or throws -/
def x_Rn (dp : Nat) (p : Program) (l : Launch) (e : Env) (R : Room) (s : State) (m : MethodId) (args : Array Value) (below : List Frame) (meth : Method) (c : Code) (H : Heap) (locs : List Loc) (cells slots mc ms : Nat) (g : JFrame) (rest : List Value) (Qa : State → Outcome → State → Prop) (XC : String → State → State → Prop) (free : Addr → Prop) : Prop :=
  ∀ T : State, T.heap = H → Stand p l e R s m args below meth c T locs cells slots →
    (∃ (v : Option Value) (st₀ t T' : State) (L : List Loc), st₀.heap = H ∧ Stand p l e R s m args below meth c T' (locs ++ L) (cells + mc) (slots + ms) ∧ (∀ q ∈ L, free q.base) ∧ T'.heap = t.heap ∧ T'.vm = t.vm ∧ Qa st₀ (.returned v) t ∧
      Goes p e below T g T' { g with pc := g.pc + dp, stack := v.toList ++ rest }) ∨
    (∃ (q : Addr) (st₀ t T' : State) (L : List Loc) (E : String) (ce : Cell), st₀.heap = H ∧ Stand p l e R s m args below meth c T' (locs ++ L) (cells + mc) (slots + ms) ∧ (∀ z ∈ L, free z.base) ∧ T'.heap = t.heap ∧ T'.vm = t.vm ∧ XC E st₀ t ∧ t.heap[q]? = some ce ∧ ce.vm = .none ∧ s.vm.findClass E = some ce.cls ∧
      Steps p.tables e below (T.setTop g) ((T'.setTop { g with stack := rest }).pushFrame (.throwing q)))
theorem x_after {dp pc mc ms : Nat} {E : xE} {al : List Nat} {r2 : xT} {als : Array Slot} {st0 rest : List Value} (hr : x_Rn dp p l e R s m args below meth c H locs cells slots mc ms (F0 m pc als st0) rest (fun st oc t => x_Qc E al r2 args st oc t) (x_Xc E al r2) (x_A E)) (hS : va_S (x_A E) s.heap H locs)
    (kk : ∀ (vo : Option Value) (ws' : va_W) (H1 : Heap) (locs1 : List Loc), x_Ro E (x_al ws') r2 vo → x_Wd E r2.2.2.1 ws' H1 → al <+: x_al ws' → va_S (x_A E) s.heap H1 locs1 → W p l e R s m args below meth c H1 locs1 (cells + mc) (slots + ms) Q (F0 m (pc + dp) als (vo.toList ++ rest)))
    (kx : 2 ≤ r2.1 → ∀ (q9 : Addr) (ce : Cell) (ws' : va_W) (H1 : Heap) (locs1 : List Loc), x_Wd E r2.2.2.1 ws' H1 → al <+: x_al ws' → va_S (x_A E) s.heap H1 locs1 → H1[q9]? = some ce → ce.vm = .none → s.vm.findClass (x_en (r2.1 - 2)) = some ce.cls → vx_W p l e R s m args below meth c H1 locs1 (cells + mc) (slots + ms) Q (F0 m pc als rest) q9) :
    W p l e R s m args below meth c H locs cells slots Q (F0 m pc als st0) := by
  intro T hT X
  rcases hr T hT X with ⟨v, st₀, t, T', L, h0, X', hL, e1, e2, ⟨vo, ws', hv, hp, hw, ha, hF⟩, st⟩ | ⟨q, st₀, t, T', L, Ec, ce, h0, X', hL, e1, e2, ⟨ws', h2, hEc, hw, ha, hF⟩, hce, hcv, hcl, st⟩
  · cases hv
    obtain ⟨k1, k2, k3⟩ := vx_keep (A0 := x_A E) (A1 := x_A E) (free := x_A E) h0 e1 hS (fun _ _ h => h) (fun _ h => h) hL hF
    obtain ⟨t2, a1, b1⟩ := kk v ws' T'.heap (locs ++ L) hp (by rw [e1]; exact hw) ha k3 T' rfl X'
    exact ⟨t2, st t2 a1, b1⟩
  · obtain ⟨k1, k2, k3⟩ := vx_keep (A0 := x_A E) (A1 := x_A E) (free := x_A E) h0 e1 hS (fun _ _ h => h) (fun _ h => h) hL hF
    subst hEc
    obtain ⟨t2, a1, b1⟩ := kx h2 q ce ws' T'.heap (locs ++ L) (by rw [e1]; exact hw) ha k3 (by rw [e1]; exact hce) hcv hcl T' rfl X'
    exact ⟨t2, st.trans a1, b1⟩
theorem x_Pre_blind {Z : xD} {E : xE} {w : xW} {ws : va_W} {vs : List Value} : FrameBlind (va_Pc vs (x_Pre Z E w ws)) := fun a U g mk h => by
  obtain ⟨h1, h2, h3, h4, h5⟩ := h
  exact ⟨h1, h2, h3, va_K.moved (u := U) (U := U.calling g mk a) (Vm.Alike.refl U.vm) h4, x_En.moved (u := U) (U := U.calling g mk a) (State.WarmedH.refl U) (Nat.le_refl _) (fun _ _ _ => rfl) h5⟩
theorem x_Pre_of {Z : xD} {E : xE} {w : xW} {ws : va_W} (hw : x_Wd E w ws H) (hK : va_K E.1 xcl (x_tys E.2.1) s) (hE : x_EnD Z E s s.heap) (hb0 : E.2.2.1 ≤ s.heap.size) (hS : va_S (x_A E) s.heap H locs) : ∀ U : State, U.heap = H → s.WarmedH U.vm → x_Pre Z E w ws U := fun U hU hW => by
  subst hU
  exact ⟨Nat.le_trans hb0 hS.1, hw, va_K.moved hW.alike hK, x_En.moved hW hS.1 hS.2.1 hE⟩
end XCALL
section XINV
variable {ms : List xM} {Z : xD} {own nm : String} {cc : ByteArray} {nL : Nat} {rt : Option FieldType} {hh : List (Nat × Nat × Nat × Nat)} {pc : Nat}
/-- the arguments, the last one on top -/
noncomputable def x_args {β : Type} (na : Nat) : List xV → List xV → (List xV → List xV → Option β) → Option β := Nat.rec (motive := fun _ => List xV → List xV → (List xV → List xV → Option β) → Option β) (fun st acc kk => kk acc st) (fun _ ih st acc kk => x_pop st fun v t => ih t (v :: acc) kk) na
theorem x_args_some {β : Type} {na : Nat} : ∀ {st acc : List xV} {kk : List xV → List xV → Option β} {r : β}, x_args na st acc kk = some r → ∃ av t, av.length = na ∧ st = av.reverse ++ t ∧ kk (av ++ acc) t = some r := by
  induction na with
  | zero => exact fun {st acc kk r} h => ⟨[], st, rfl, rfl, h⟩
  | succ na ih =>
    intro st acc kk r h
    obtain ⟨v, t, rfl, h2⟩ := x_pop_some (show x_pop st (fun v t => x_args na t (v :: acc) kk) = some r from h)
    obtain ⟨av, t2, h3, rfl, h4⟩ := ih h2
    refine ⟨av ++ [v], t2, by simp [h3], by simp, ?_⟩
    rw [List.append_assoc]
    exact h4
/-- what comes back: a value, nothing, or an exception that isn't caught here -/
noncomputable def x_back (c : xK) (nx : Nat) (ls t : List xV) (k n : Nat) (o : Option xT) : Option xT := match o with
  | none => none
  | some (kd, v, w', dk, dn) => x_fn (k + dk) fun k' => x_fn (n + dn) fun n' => x_br (Nat.beq kd 0) (c nx ls (v :: t) w' k' n') (x_br (Nat.beq kd 1) (c nx ls t w' k' n') (some (kd, (0, 0), w', k', n')))
theorem x_back_some {c : xK} {nx : Nat} {ls t : List xV} {k n : Nat} {o : Option xT} {r : xT} (h : x_back c nx ls t k n o = some r) : ∃ r2 : xT, o = some r2 ∧ ((r2.1 = 0 ∧ c nx ls (r2.2.1 :: t) r2.2.2.1 (k + r2.2.2.2.1) (n + r2.2.2.2.2) = some r) ∨ (r2.1 = 1 ∧ c nx ls t r2.2.2.1 (k + r2.2.2.2.1) (n + r2.2.2.2.2) = some r) ∨ (2 ≤ r2.1 ∧ r = (r2.1, (0, 0), r2.2.2.1, k + r2.2.2.2.1, n + r2.2.2.2.2))) := by
  cases o with
  | none => cases h
  | some r2 =>
    obtain ⟨kd, v, w', dk, dn⟩ := r2
    have h' : x_fn (k + dk) (fun k' => x_fn (n + dn) fun n' => x_br (Nat.beq kd 0) (c nx ls (v :: t) w' k' n') (x_br (Nat.beq kd 1) (c nx ls t w' k' n') (some (kd, (0, 0), w', k', n')))) = some r := h
    rw [x_fn_eq, x_fn_eq] at h'
    refine ⟨_, rfl, ?_⟩
    cases h0 : Nat.beq kd 0 with
    | true =>
      rw [h0] at h'
      exact Or.inl ⟨Nat.eq_of_beq_eq_true h0, h'⟩
    | false =>
      rw [h0] at h'
      cases h1 : Nat.beq kd 1 with
      | true =>
        have h2 : x_br (Nat.beq kd 1) (c nx ls t w' (k + dk) (n + dn)) (some (kd, (0, 0), w', k + dk, n + dn)) = some r := h'
        rw [h1] at h2
        exact Or.inr (Or.inl ⟨Nat.eq_of_beq_eq_true h1, h2⟩)
      | false =>
        have h2 : x_br (Nat.beq kd 1) (c nx ls t w' (k + dk) (n + dn)) (some (kd, (0, 0), w', k + dk, n + dn)) = some r := h'
        rw [h1] at h2
        have n0 : kd ≠ 0 := fun q => by rw [q] at h0; exact absurd h0 (by decide)
        have n1 : kd ≠ 1 := fun q => by rw [q] at h1; exact absurd h1 (by decide)
        exact Or.inr (Or.inr ⟨by show 2 ≤ kd; omega, (Option.some.inj h2).symm⟩)
/-- the contract's precondition, said of the values at hand -/
def x_CallRow (na dp : Nat) (M : xM) (own nm : String) (cc : ByteArray) (nL : Nat) (rt : Option FieldType) (hh : List (Nat × Nat × Nat × Nat)) (pc : Nat) (Z : xD) (ck : xW → List xV → Bool) : Prop :=
  ∀ (d : Nat) (E : xE) (al0 : List Nat) (r : xT) (p : Program) (l : Launch) (e : Env) (R : Room) (s : State) (m : MethodId) (args : Array Value) (below : List Frame) (meth : Method) (c : Code) (Q : State → Prop), x_Cx own nm cc nL rt hh d Z E al0 r p l e R s m args below meth c Q →
    ∀ (w : xW) (ws : va_W) (H : Heap) (locs : List Loc) (als : Array Slot) (k n : Nat) (av : List xV) (vs rest : List Value) (r2 : xT), als.size = nL → x_Wd E w ws H → va_S (x_A E) s.heap H locs → av.length = na → x_RS E (x_al ws) av vs → ck w av = true → (rest.map fun v => v.category).sum ≤ 8 → k + r2.2.2.2.1 ≤ R.cells → n + r2.2.2.2.2 ≤ R.slots → (vx_Met l M.1 (x_ws M) (x_rm d r2) (va_Pc vs (x_Pre Z E w ws)) (x_Qc E (x_al ws) r2) (x_Xc E (x_al ws) r2) r2.2.2.2.1 r2.2.2.2.2 (x_A E)) →
      x_Rn dp p l e R s m args below meth c H locs k n r2.2.2.2.1 r2.2.2.2.2 (F0 m pc als (vs.reverse ++ rest)) rest (fun st oc t => x_Qc E (x_al ws) r2 args st oc t) (x_Xc E (x_al ws) r2) (x_A E)
noncomputable def xo_inv (ck : xW → List xV → Bool) (u na nx : Nat) : xO := fun fn c ls st w k n => x_args na st [] fun av t => x_if (ck w av && Nat.ble (x_cat t) 8) (x_back c nx ls t k n (fn u av w))
theorem xs_inv {ck : xW → List xV → Bool} {u na dp : Nat} {M : xM} (hu : ms[u]? = some M) (hhe : hh = []) (row : x_CallRow na dp M own nm cc nL rt hh pc Z ck) : x_Ok ms Z own nm cc nL rt hh pc (xo_inv ck u na (pc + dp)) := by
  intro d fn hfn E al0 r p l e R s m args below meth c Q hC cont ih ls st w k n h
  replace h := x_args_some h
  obtain ⟨av, t, hna, rfl, h⟩ := h
  rw [List.append_nil] at h
  obtain ⟨h0, h⟩ := x_if_some h
  obtain ⟨r2, h1, h⟩ := x_back_some h
  simp only [Bool.and_eq_true] at h0
  have hctr := hfn u M av w r2 hu h1
  have hC' := hC
  obtain ⟨hx, hb, hml, ho, hts, hK, hE, hb0, hlk, hfl, -, htab, hF, ⟨hR3, hR4, hR1, hR2⟩, -, hthr⟩ := hC
  have hkn : k + r2.2.2.2.1 ≤ r.2.2.2.1 ∧ n + r2.2.2.2.2 ≤ r.2.2.2.2 := by
    rcases h with ⟨-, h⟩ | ⟨-, h⟩ | ⟨-, rfl⟩
    · have g := ih _ _ _ _ _ _ h
      exact ⟨g.1, g.2.1⟩
    · have g := ih _ _ _ _ _ _ h
      exact ⟨g.1, g.2.1⟩
    · exact ⟨Nat.le_refl _, Nat.le_refl _⟩
  refine ⟨Nat.le_trans (Nat.le_add_right _ _) hkn.1, Nat.le_trans (Nat.le_add_right _ _) hkn.2, fun ws H locs als lv vst hW hal hS hl hL hV => ?_⟩
  obtain ⟨m1, m2, rfl, hV1, hV2⟩ := hV.split
  have hV3 := hV1.rev
  rw [List.reverse_reverse] at hV3
  have hcat : (m2.map fun v => v.category).sum ≤ 8 := Nat.le_trans (x_cat_le hV2) (Nat.le_of_ble_eq_true h0.2)
  have hrow := row d E al0 r p l e R s m args below meth c Q hC' w ws H locs als k n av m1.reverse m2 r2 hl.1 hW hS hna hV3 h0.1 hcat (Nat.le_trans hkn.1 hR1) (Nat.le_trans hkn.2 hR2) (hctr l E m1.reverse ws hfl hF hV3)
  rw [List.reverse_reverse] at hrow
  refine x_after hrow hS (fun vo ws' H1 locs1 hro hW1 hal1 hS1 => ?_) (fun h2 q9 ce ws' H1 locs1 hW1 hal1 hS1 hce hcv hcl => ?_)
  · rcases hro with ⟨hk0, V, rfl, hV4⟩ | ⟨hk1, rfl⟩
    · rcases h with ⟨-, h⟩ | ⟨h9, -⟩ | ⟨h9, -⟩
      · exact (ih _ _ _ _ _ _ h).2.2 ws' H1 locs1 als lv (V :: m2) hW1 (hal.trans hal1) hS1 hl (hL.mono hal1) ⟨hV4, hV2.mono hal1⟩
      · omega
      · omega
    · rcases h with ⟨h9, -⟩ | ⟨-, h⟩ | ⟨h9, -⟩
      · omega
      · exact (ih _ _ _ _ _ _ h).2.2 ws' H1 locs1 als lv m2 hW1 (hal.trans hal1) hS1 hl (hL.mono hal1) (hV2.mono hal1)
      · omega
  · rcases h with ⟨h9, -⟩ | ⟨h9, -⟩ | ⟨-, h⟩
    · omega
    · omega
    · subst h
      obtain ⟨Qc, XC, rfl, hXC⟩ := hthr h2
      refine vx_out (fun x hx9 => ?_) hlk hce hcv hcl (fun t ht hal9 => ?_) (fun z hz => hS1.2.2 z hz) (Nat.le_refl _) (Nat.le_refl _)
      · rw [htab, hhe] at hx9
        cases hx9
      · exact hXC t ws' (by rw [ht]; exact hW1) (hal.trans hal1) (hS1.F ht)
end XINV
end
section
/-! THE KINDS OF CALLS -/
section XKND
variable {ms : List xM} {Z : xD} {own nm : String} {cc : ByteArray} {nL : Nat} {rt : Option FieldType} {hh : List (Nat × Nat × Nat × Nat)} {pc : Nat}
/-- what a method's words are, once for all its calls -/
def x_Mok (M : xM) : Prop := M.2.2.2.2 = [] ∧ Cond.code M.1 M.2.1 M.2.2.1 M.2.2.2.1 ∈ xTb ∧ Cond.initialized M.1.cls ∈ xTb ∧ (M.1.cls ≠ "java/lang/invoke/MethodHandle" ∧ M.1.cls ≠ "java/lang/invoke/VarHandle") ∧ M.2.2.1 ≤ 40
theorem x_Mok.hd {M : xM} (h : x_Mok M) : x_ws M = Cond.code M.1 M.2.1 M.2.2.1 M.2.2.2.1 :: xTb := by
  unfold x_ws x_hd
  rw [if_pos h.1]
theorem x_Mok.goodIn {M : xM} (h : x_Mok M) : GoodIn xTb (x_ws M) := by
  rw [h.hd]
  refine x_goodIn fun w hw => ?_
  rcases List.mem_cons.mp hw with rfl | hw
  · exact ⟨h.2.1, x_good h.2.1⟩
  · exact ⟨hw, x_good hw⟩
theorem x_goodApp {a b : List Cond} (ha : ∀ w ∈ a, w ∈ xTb) (hb : GoodIn xTb b) : GoodIn xTb (a ++ b) := goodIn_app (x_goodIn fun w hw => ⟨ha w hw, x_good (ha w hw)⟩) hb
def x_ckT (_ : xW) (_ : List xV) : Bool := true
/-- a static method -/
theorem x_rowS {na index : Nat} {M : xM} (hM : x_Mok M) (hlk : Cond.methodLink own index M.1 ∈ xTb) (hst : Cond.static M.1 ∈ xTb) (hn : (parseMethodDescriptor M.1.desc).map (fun d => d.parameters.length) = some na) (hd : decode cc pc = .ok (.invokestatic index, 3)) : x_CallRow na 3 M own nm cc nL rt hh pc Z x_ckT := by
  intro d E al0 r p l e R s m args below meth c Q hC w ws H locs als k n av vs rest r2 hsz hW hS hna hV hck hcat hk1 hk2 hMet
  obtain ⟨hx, hb, hml, ho, hts, hK, hE, hb0, -, -, -, -, -, ⟨hR3, hR4, hR1, hR2⟩, -⟩ := hC
  have hG : GoodIn xTb (va_wsS own index M.1 (x_ws M)) := x_goodApp (fun w hw => by
    simp only [List.mem_cons, List.not_mem_nil, or_false] at hw
    rcases hw with rfl | rfl | rfl
    · exact hlk
    · exact hst
    · exact hM.2.2.1) hM.goodIn
  have hml40 := hM.2.2.2.2
  exact vx_runS (As := vs) (rest := rest) ⟨hx, hb, hml, ho, hts⟩ hMet (va_cwS (R := R) (rm := x_rm d r2) na hts hG hM.hd rfl rfl ⟨hM.2.2.2.1.1, hM.2.2.2.1.2, hn⟩ ⟨by show d + 8 + 1 ≤ R.frames; omega, by show 8 + (M.2.2.1 + 11) + (70 * d + 200) ≤ R.locals; omega⟩) ⟨x_Pre_blind, fun U hU hW1 => ⟨rfl, x_Pre_of hW hK hE hb0 hS U hU hW1⟩⟩ rfl (by rw [← hV.len]; exact hna) hsz rfl (lv_room hcat) hd ⟨hk1, hk2⟩
/-- a nest mate's static method -/
theorem x_rowSN {na index : Nat} {host : String} {M : xM} (hM : x_Mok M) (hlk : (own, index, M.1, host) ∈ Z.2.1) (hst : Cond.static M.1 ∈ xTb) (hn : (parseMethodDescriptor M.1.desc).map (fun d => d.parameters.length) = some na) (hd : decode cc pc = .ok (.invokestatic index, 3)) : x_CallRow na 3 M own nm cc nL rt hh pc Z x_ckT := by
  intro d E al0 r p l e R s m args below meth c Q hC w ws H locs als k n av vs rest r2 hsz hW hS hna hV hck hcat hk1 hk2 hMet
  obtain ⟨hx, hb, hml, ho, hts, hK, hE, hb0, -, -, -, -, -, ⟨hR3, hR4, hR1, hR2⟩, -⟩ := hC
  have hml40 := hM.2.2.2.2
  exact vx_runSN (As := vs) (rest := rest) ⟨hx, hb, hml, ho, hts⟩ hMet ⟨va_cnB (R := R) (rm := x_rm d r2) na hts hM.goodIn hM.hd rfl rfl (hE.2.2.2.2.2.1.2.1 _ hlk) (hts _ hM.2.2.1) ⟨hM.2.2.2.1.1, hM.2.2.2.1.2, hn⟩ ⟨by show d + 8 + 1 ≤ R.frames; omega, by show 8 + (M.2.2.1 + 11) + (70 * d + 200) ≤ R.locals; omega⟩, hts _ hst, trivial⟩ ⟨x_Pre_blind, fun U hU hW1 => ⟨rfl, x_Pre_of hW hK hE hb0 hS U hU hW1⟩⟩ rfl (by rw [← hV.len]; exact hna) hsz rfl (lv_room hcat) hd ⟨hk1, hk2⟩
/-- the receiver, a cell of that class -/
noncomputable def x_at {α : Type} (l : List α) (f : α → Bool) : Nat → Bool := List.rec (motive := fun _ => Nat → Bool) (fun _ => false) (fun a _ ih n => Nat.rec (motive := fun _ => Bool) (f a) (fun m _ => ih m) n) l
theorem x_at_some {α : Type} {l : List α} {f : α → Bool} {n : Nat} (h : x_at l f n = true) : ∃ a, l[n]? = some a ∧ f a = true := by
  induction l generalizing n with
  | nil => cases h
  | cons a t ih =>
    cases n with
    | zero => exact ⟨a, rfl, h⟩
    | succ n => exact ih (n := n) h
noncomputable def x_ckO (ci : Nat) (w : xW) (av : List xV) : Bool := match av with
  | [] => false
  | v :: _ => x_isT 1 v && x_at w (fun q => Nat.beq q.1 ci) v.2
def x_ckR (_ : xW) (av : List xV) : Bool := match av with
  | [] => false
  | v :: _ => x_isT 1 v
theorem x_recv {E : xE} {s : State} {H : Heap} {ci : Nat} {w : xW} {ws : va_W} {av : List xV} {vs : List Value} {q : vw_C} (hci : ci < 100) (hc : xcl[ci]? = some q) (hK : va_K E.1 xcl (x_tys E.2.1) s) (hW : x_Wd E w ws H) (hV : x_RS E (x_al ws) av vs) (h : x_ckO ci w av = true) : ∃ (b : Nat) (As : List Value), vs = .ref b :: As ∧ av.length = As.length + 1 ∧ (∃ cell : Cell, H[b]? = some cell ∧ cell.vm.isStatics = false ∧ s.vm.findClass q.1 = some cell.cls) := by
  cases av with
  | nil => cases h
  | cons v t =>
    simp only [x_ckO, Bool.and_eq_true] at h
    obtain ⟨i, rfl⟩ := x_isT_of h.1
    obtain ⟨V, As, rfl, ⟨a, h1, rfl⟩, hV2⟩ := hV.cons
    obtain ⟨cq, h2, h3⟩ := x_at_some h.2
    obtain ⟨e1, h4, h5⟩ := hW.1.get h2 h1
    have hq : cq.1 = ci := Nat.eq_of_beq_eq_true h3
    obtain ⟨fs, rfl, -⟩ := x_RC_obj h5 (by rw [hq]; exact hci)
    rw [hq] at h4
    exact ⟨a, As, rfl, by rw [← hV2.len]; rfl, va_recv hK hW.2.1 hc h4⟩
/-- a method of the receiver's own class -/
theorem x_rowV {na index ci : Nat} {q : vw_C} {M : xM} (hM : x_Mok M) (hci : ci < 100) (hc : xcl[ci]? = some q) (hq : M.1.cls = q.1) (hlk : Cond.methodLink own index M.1 ∈ xTb) (him : Cond.instanceMethod M.1 ∈ xTb) (hse : Cond.selects q.1 M.1 M.1 ∈ xTb) (hn : (parseMethodDescriptor M.1.desc).map (fun d => d.parameters.length) = some na) (hd : decode cc pc = .ok (.invokevirtual index, 3)) : x_CallRow (na + 1) 3 M own nm cc nL rt hh pc Z (x_ckO ci) := by
  intro d E al0 r p l e R s m args below meth c Q hC w ws H locs als k n av vs rest r2 hsz hW hS hna hV hck hcat hk1 hk2 hMet
  obtain ⟨hx, hb, hml, ho, hts, hK, hE, hb0, -, -, -, -, -, ⟨hR3, hR4, hR1, hR2⟩, -⟩ := hC
  obtain ⟨b, As, rfl, hlen, hrecv⟩ := x_recv hci hc hK hW hV hck
  have hG : GoodIn xTb (wsV own index q.1 M.1 (x_ws M)) := x_goodApp (fun w hw => by
    simp only [List.mem_cons, List.not_mem_nil, or_false] at hw
    rcases hw with rfl | rfl | rfl | rfl
    · exact hlk
    · exact him
    · exact hse
    · rw [← hq]
      exact hM.2.2.1) hM.goodIn
  have hml40 := hM.2.2.2.2
  exact vx_runV (C := q.1) (b := b) (As := As) (rest := rest) ⟨hx, hb, hml, ho, hts⟩ hMet (cwV (R := R) (rm := x_rm d r2) na hts hG hM.hd rfl rfl ⟨hq, hM.2.2.2.1.1, hM.2.2.2.1.2, hn⟩ ⟨by show d + 8 + 1 ≤ R.frames; omega, by show 8 + (M.2.2.1 + 11) + (70 * d + 200) ≤ R.locals; omega⟩) ⟨x_Pre_blind, hrecv, fun U hU hW1 => ⟨rfl, x_Pre_of hW hK hE hb0 hS U hU hW1⟩⟩ rfl (by omega) hsz (by simp) (lv_room hcat) hd ⟨hk1, hk2⟩
/-- by an interface -/
theorem x_rowF {na index count ci : Nat} {q : vw_C} {x : MethodName} {M : xM} (hM : x_Mok M) (hci : ci < 100) (hc : xcl[ci]? = some q) (hF : (q.1, x, M.1) ∈ Z.2.2.2.1) (hlk : Cond.methodLink own index x ∈ xTb) (him : Cond.instanceMethod M.1 ∈ xTb) (hse : Cond.selects q.1 x M.1 ∈ xTb) (hn : (parseMethodDescriptor x.desc).map (fun d => d.parameters.length) = some na) (hd : decode cc pc = .ok (.invokeinterface index count, 5)) : x_CallRow (na + 1) 5 M own nm cc nL rt hh pc Z (x_ckO ci) := by
  intro d E al0 r p l e R s m args below meth c Q hC w ws H locs als k n av vs rest r2 hsz hW hS hna hV hck hcat hk1 hk2 hMet
  obtain ⟨hx, hb, hml, ho, hts, hK, hE, hb0, -, -, -, -, -, ⟨hR3, hR4, hR1, hR2⟩, -⟩ := hC
  obtain ⟨b, As, rfl, hlen, hrecv⟩ := x_recv hci hc hK hW hV hck
  have hG : GoodIn xTb (va_wsF own index q.1 x M.1 (x_ws M)) := x_goodApp (fun w hw => by
    simp only [List.mem_cons, List.not_mem_nil, or_false] at hw
    rcases hw with rfl | rfl | rfl | rfl
    · exact hlk
    · exact hse
    · exact him
    · exact hM.2.2.1) hM.goodIn
  have hml40 := hM.2.2.2.2
  obtain ⟨f1, f2, f3⟩ := hE.2.2.2.2.2.1.2.2.2.1 _ hF
  exact vx_runF (C := q.1) (b := b) (As := As) (rest := rest) (hK.1 ci q hc).2 ⟨hx, hb, hml, ho, hts⟩ hMet (va_cwF (R := R) (rm := x_rm d r2) na hts hG hM.hd rfl rfl f3 ⟨f1, f2, hn⟩ ⟨by show d + 8 + 1 ≤ R.frames; omega, by show 8 + (M.2.2.1 + 11) + (70 * d + 200) ≤ R.locals; omega⟩) ⟨x_Pre_blind, hrecv, fun U hU hW1 => ⟨rfl, x_Pre_of hW hK hE hb0 hS U hU hW1⟩⟩ rfl (by omega) hsz (by simp) (lv_room hcat) hd ⟨hk1, hk2⟩
theorem x_refv {E : xE} {al : List Nat} {w : xW} {av : List xV} {vs : List Value} (hV : x_RS E al av vs) (h : x_ckR w av = true) : ∃ (b : Nat) (As : List Value), vs = .ref b :: As ∧ av.length = As.length + 1 := by
  cases av with
  | nil => cases h
  | cons v t =>
    obtain ⟨i, rfl⟩ := x_isT_of h
    obtain ⟨V, As, rfl, ⟨a, h1, rfl⟩, hV2⟩ := hV.cons
    exact ⟨a, As, rfl, by rw [← hV2.len]; rfl⟩
/-- a constructor -/
theorem x_rowI {na index : Nat} {M : xM} (hM : x_Mok M) (hrt : M.2.2.2.1 = none) (hnm : M.1.name = "<init>") (hlk : Cond.methodLink own index M.1 ∈ xTb) (him : Cond.instanceMethod M.1 ∈ xTb) (hn : (parseMethodDescriptor M.1.desc).map (fun d => d.parameters.length) = some na) (hd : decode cc pc = .ok (.invokespecial index, 3)) : x_CallRow (na + 1) 3 M own nm cc nL rt hh pc Z x_ckR := by
  intro d E al0 r p l e R s m args below meth c Q hC w ws H locs als k n av vs rest r2 hsz hW hS hna hV hck hcat hk1 hk2 hMet
  obtain ⟨hx, hb, hml, ho, hts, hK, hE, hb0, -, -, -, -, -, ⟨hR3, hR4, hR1, hR2⟩, -⟩ := hC
  obtain ⟨b, As, rfl, hlen⟩ := x_refv hV hck
  have hml40 := hM.2.2.2.2
  have hw := hM.hd
  rw [hrt] at hw
  exact vx_runI (b := b) (As := As) (rest := rest) ⟨hx, hb, hml, ho, hts⟩ hMet (cwI (R := R) (rm := x_rm d r2) na hts hM.goodIn hw rfl rfl (hts _ hM.2.2.1) (hts _ hlk) (hts _ him) hnm ⟨hM.2.2.2.1.1, hM.2.2.2.1.2, hn⟩ ⟨by show d + 8 + 1 ≤ R.frames; omega, by show 8 + (M.2.2.1 + 11) + (70 * d + 200) ≤ R.locals; omega⟩) ⟨x_Pre_blind, fun U hU hW1 => ⟨rfl, x_Pre_of hW hK hE hb0 hS U hU hW1⟩⟩ rfl (by omega) hsz (by simp) (lv_room hcat) hd ⟨hk1, hk2⟩
/-- a nest mate's private constructor -/
theorem x_rowIN {na index : Nat} {host : String} {M : xM} (hM : x_Mok M) (hrt : M.2.2.2.1 = none) (hnm : M.1.name = "<init>") (hlk : (own, index, M.1, host) ∈ Z.2.1) (him : Cond.instanceMethod M.1 ∈ xTb) (hn : (parseMethodDescriptor M.1.desc).map (fun d => d.parameters.length) = some na) (hd : decode cc pc = .ok (.invokespecial index, 3)) : x_CallRow (na + 1) 3 M own nm cc nL rt hh pc Z x_ckR := by
  intro d E al0 r p l e R s m args below meth c Q hC w ws H locs als k n av vs rest r2 hsz hW hS hna hV hck hcat hk1 hk2 hMet
  obtain ⟨hx, hb, hml, ho, hts, hK, hE, hb0, -, -, -, -, -, ⟨hR3, hR4, hR1, hR2⟩, -⟩ := hC
  obtain ⟨b, As, rfl, hlen⟩ := x_refv hV hck
  have hml40 := hM.2.2.2.2
  have hw := hM.hd
  rw [hrt] at hw
  exact vx_runIN (b := b) (As := As) (rest := rest) ⟨hx, hb, hml, ho, hts⟩ hMet ⟨va_cnB (R := R) (rm := x_rm d r2) na hts hM.goodIn hw rfl rfl (hE.2.2.2.2.2.1.2.1 _ hlk) (hts _ hM.2.2.1) ⟨hM.2.2.2.1.1, hM.2.2.2.1.2, hn⟩ ⟨by show d + 8 + 1 ≤ R.frames; omega, by show 8 + (M.2.2.1 + 11) + (70 * d + 200) ≤ R.locals; omega⟩, hnm, hts _ him⟩ ⟨x_Pre_blind, fun U hU hW1 => ⟨rfl, x_Pre_of hW hK hE hb0 hS U hU hW1⟩⟩ rfl (by omega) hsz (by simp) (lv_room hcat) hd ⟨hk1, hk2⟩
/-- a static method with handlers of its own -/
def x_MokH (M : xM) : Prop := M.2.2.2.2 ≠ [] ∧ Cond.codeWith M.1 M.2.1 M.2.2.1 M.2.2.2.1 M.2.2.2.2 ∈ xTb ∧ Cond.initialized M.1.cls ∈ xTb ∧ (M.1.cls ≠ "java/lang/invoke/MethodHandle" ∧ M.1.cls ≠ "java/lang/invoke/VarHandle") ∧ M.2.2.1 ≤ 40
theorem x_MokH.hd {M : xM} (h : x_MokH M) : x_ws M = Cond.codeWith M.1 M.2.1 M.2.2.1 M.2.2.2.1 M.2.2.2.2 :: xTb := by
  unfold x_ws x_hd
  rw [if_neg h.1]
theorem x_MokH.goodIn {M : xM} (h : x_MokH M) : GoodIn xTb (x_ws M) := by
  rw [h.hd]
  refine x_goodIn fun w hw => ?_
  rcases List.mem_cons.mp hw with rfl | hw
  · exact ⟨h.2.1, x_good h.2.1⟩
  · exact ⟨hw, x_good hw⟩
theorem x_rowSH {na index : Nat} {M : xM} (hM : x_MokH M) (hlk : Cond.methodLink own index M.1 ∈ xTb) (hst : Cond.static M.1 ∈ xTb) (hn : (parseMethodDescriptor M.1.desc).map (fun d => d.parameters.length) = some na) (hd : decode cc pc = .ok (.invokestatic index, 3)) : x_CallRow na 3 M own nm cc nL rt hh pc Z x_ckT := by
  intro d E al0 r p l e R s m args below meth c Q hC w ws H locs als k n av vs rest r2 hsz hW hS hna hV hck hcat hk1 hk2 hMet
  obtain ⟨hx, hb, hml, ho, hts, hK, hE, hb0, -, -, -, -, -, ⟨hR3, hR4, hR1, hR2⟩, -⟩ := hC
  have hG : GoodIn xTb (va_wsS own index M.1 (x_ws M)) := x_goodApp (fun w hw => by
    simp only [List.mem_cons, List.not_mem_nil, or_false] at hw
    rcases hw with rfl | rfl | rfl
    · exact hlk
    · exact hst
    · exact hM.2.2.1) hM.goodIn
  have hml40 := hM.2.2.2.2
  exact vx_runSX (As := vs) (rest := rest) ⟨hx, hb, hml, ho, hts⟩ hMet (vx_cwSW (R := R) (rm := x_rm d r2) na hts hG hM.hd rfl rfl ⟨hM.2.2.2.1.1, hM.2.2.2.1.2, hn⟩ ⟨by show d + 8 + 1 ≤ R.frames; omega, by show 8 + (M.2.2.1 + 11) + (70 * d + 200) ≤ R.locals; omega⟩) ⟨x_Pre_blind, fun U hU hW1 => ⟨rfl, x_Pre_of hW hK hE hb0 hS U hU hW1⟩⟩ rfl (by rw [← hV.len]; exact hna) hsz rfl (lv_room hcat) hd ⟨hk1, hk2⟩
/-- Object's constructor -/
noncomputable def xo_obj (nx : Nat) : xO := fun _ c ls st w k n => x_pop st fun v t => x_if (x_isT 1 v && Nat.ble (x_cat t) 8) (c nx ls t w k n)
theorem xs_obj {index : Nat} (hlk : Cond.methodLink own index Lib.objectInit ∈ xTb) (him : Cond.instanceMethod Lib.objectInit ∈ xTb) (hcd : Cond.code Lib.objectInit ⟨#[0xb1]⟩ 1 none ∈ xTb) (hd : decode cc pc = .ok (.invokespecial index, 3)) : x_Ok ms Z own nm cc nL rt hh pc (xo_obj (pc + 3)) := by
  intro d fn hfn E al0 r p l e R s m args below meth c Q hC cont ih ls st w k n h
  replace h := x_pop_some h
  obtain ⟨v, t, rfl, h⟩ := h
  obtain ⟨h0, h⟩ := x_if_some h
  simp only [Bool.and_eq_true] at h0
  have g := ih _ _ _ _ _ _ h
  obtain ⟨hx, hb, hml, ho, hts, hK, hE, hb0, -, -, -, -, -, ⟨hR3, hR4, hR1, hR2⟩, -⟩ := hC
  refine ⟨g.1, g.2.1, fun ws H locs als lv vst hW hal hS hl hL hV => ?_⟩
  replace hV := hV.cons
  obtain ⟨V, vst, rfl, hv, hV⟩ := hV
  obtain ⟨i, rfl⟩ := x_isT_of h0.1
  obtain ⟨a, -, rfl⟩ := hv
  have hcat : (vst.map fun v => v.category).sum ≤ 8 := Nat.le_trans (x_cat_le hV) (Nat.le_of_ble_eq_true h0.2)
  have hrm := lv_room (m := m) (pc := pc) (ls := als) (rest := .ref a :: vst) hcat
  exact W.objInit hx hb ho (hts _ hlk) (hts _ him) (hts _ hcd) rfl (hl.1.trans hml.symm) rfl hd (by omega) (by omega) (g.2.2 ws H locs als lv vst hW hal hS hl hL hV)
end XKND
end
section
/-! RETURNS, THROWS, CATCHES, COPIES; A METHOD'S RUN -/
section XEND
variable {ms : List xM} {Z : xD} {own nm : String} {cc : ByteArray} {nL : Nat} {rt : Option FieldType} {hh : List (Nat × Nat × Nat × Nat)} {pc : Nat}
noncomputable def xo_bad : xO := fun _ _ _ _ _ _ _ => none
theorem xs_bad : x_Ok ms Z own nm cc nL rt hh pc xo_bad := fun d fn hfn E al0 r p l e R s m args below meth c Q hC cont ih ls st w k n h => nomatch h
noncomputable def xo_ret (chk : xV → Bool) : xO := fun _ _ ls st w k n => x_pop st fun v t => match t with
  | [] => x_if (chk v) (some (0, v, w, k, n))
  | _ :: _ => none
theorem xs_ret {chk : xV → Bool} (hr : ∀ (E : xE) (al : List Nat) (v : xV) (V : Value), chk v = true → x_rv E al v V → x_rti cc pc rt (some V)) : x_Ok ms Z own nm cc nL rt hh pc (xo_ret chk) := by
  intro d fn hfn E al0 r p l e R s m args below meth c Q hC cont ih ls st w k n h
  replace h := x_pop_some h
  obtain ⟨v, t, rfl, h⟩ := h
  cases t with
  | cons a t => cases h
  | nil =>
    obtain ⟨h0, h⟩ := x_if_some (b := chk v) h
    cases h
    obtain ⟨-, -, -, -, -, -, -, -, -, -, -, -, -, -, hret, -⟩ := hC
    refine ⟨Nat.le_refl _, Nat.le_refl _, fun ws H locs als lv vst hW hal hS hl hL hV => ?_⟩
    replace hV := hV.cons
    obtain ⟨V, vst, rfl, hv, hV⟩ := hV
    have e := hV.nil
    subst e
    exact hret (some V) pc als H locs ws hW hal hS (Or.inl ⟨rfl, V, rfl, hv⟩) (hr E _ v V h0 hv)
def x_isZ (v : xV) : Bool := Nat.beq v.1 2 && Nat.ble v.2 1
theorem xs_iret (hrt : rt = some .int) (hd : decode cc pc = .ok (.ireturn, 1)) : x_Ok ms Z own nm cc nL rt hh pc (xo_ret x_isI) := xs_ret fun E al v V hi hV => by
  have e := x_ri_of hi hV
  subst e
  exact Or.inr (Or.inl ⟨_, .int, rfl, hrt, rfl, hd⟩)
theorem xs_zret (hrt : rt = some .boolean) (hd : decode cc pc = .ok (.ireturn, 1)) : x_Ok ms Z own nm cc nL rt hh pc (xo_ret x_isZ) := xs_ret fun E al v V hi hV => by
  obtain ⟨t, n⟩ := v
  simp only [x_isZ, Bool.and_eq_true] at hi
  have e : t = 2 := Nat.eq_of_beq_eq_true hi.1
  subst e
  have e2 : V = .int (nI n) := hV
  subst e2
  refine Or.inr (Or.inl ⟨_, .boolean, rfl, hrt, ?_, hd⟩)
  have hn : n ≤ 1 := Nat.le_of_ble_eq_true hi.2
  obtain rfl | rfl : n = 0 ∨ n = 1 := by omega
  · rfl
  · rfl
theorem xs_cret (hrt : rt = some .char) (hd : decode cc pc = .ok (.ireturn, 1)) : x_Ok ms Z own nm cc nL rt hh pc (xo_ret x_isC) := xs_ret fun E al v V hi hV => by
  have h1 := (x_fit_char E al v V hi hV).1
  obtain ⟨t, n⟩ := v
  simp only [x_isC, Bool.and_eq_true] at hi
  have e : t = 2 := Nat.eq_of_beq_eq_true hi.1
  subst e
  have e2 : V = .int (nI n) := hV
  subst e2
  exact Or.inr (Or.inl ⟨_, .char, rfl, hrt, h1, hd⟩)
theorem xs_lret (hrt : rt = some .long) (hd : decode cc pc = .ok (.lreturn, 1)) : x_Ok ms Z own nm cc nL rt hh pc (xo_ret (x_isT 3)) := xs_ret fun E al v V hi hV => by
  obtain ⟨u, rfl⟩ := x_isT_of hi
  exact Or.inr (Or.inr (Or.inl ⟨lN u, congrArg some hV, hrt, hd⟩))
theorem xs_fret (hrt : rt = some .float) (hd : decode cc pc = .ok (.freturn, 1)) : x_Ok ms Z own nm cc nL rt hh pc (xo_ret (x_isT 6)) := xs_ret fun E al v V hi hV => by
  obtain ⟨u, rfl⟩ := x_isT_of hi
  exact Or.inr (Or.inr (Or.inr (Or.inl ⟨_, congrArg some hV, hrt, hd⟩)))
theorem xs_dret (hrt : rt = some .double) (hd : decode cc pc = .ok (.dreturn, 1)) : x_Ok ms Z own nm cc nL rt hh pc (xo_ret (x_isT 7)) := xs_ret fun E al v V hi hV => by
  obtain ⟨u, rfl⟩ := x_isT_of hi
  exact Or.inr (Or.inr (Or.inr (Or.inr (Or.inl ⟨_, congrArg some hV, hrt, hd⟩))))
theorem xs_aret {ty : FieldType} (hrt : rt = some ty) (hty : (∃ n, ty = .object n) ∨ ∃ t, ty = .array t) (hd : decode cc pc = .ok (.areturn, 1)) : x_Ok ms Z own nm cc nL rt hh pc (xo_ret x_isA) := xs_ret fun E al v V hi hV => Or.inr (Or.inr (Or.inr (Or.inr (Or.inr ⟨V, ty, rfl, hrt, hty, x_isA_of hi hV, hd⟩))))
noncomputable def xo_retv : xO := fun _ _ ls st w k n => match st with
  | [] => some (1, (0, 0), w, k, n)
  | _ :: _ => none
theorem xs_retv (hrt : rt = none) (hd : decode cc pc = .ok (.return_, 1)) : x_Ok ms Z own nm cc nL rt hh pc xo_retv := by
  intro d fn hfn E al0 r p l e R s m args below meth c Q hC cont ih ls st w k n h
  cases st with
  | cons a t => cases h
  | nil =>
    cases h
    obtain ⟨-, -, -, -, -, -, -, -, -, -, -, -, -, -, hret, -⟩ := hC
    refine ⟨Nat.le_refl _, Nat.le_refl _, fun ws H locs als lv vst hW hal hS hl hL hV => ?_⟩
    have e := hV.nil
    subst e
    exact hret none pc als H locs ws hW hal hS (Or.inr ⟨rfl, rfl⟩) (Or.inl ⟨rfl, hrt, hd⟩)
/-- 'throw new E(text)' -/
noncomputable def xo_thr (u : Nat) : xO := fun _ _ ls st w k n => x_if (Nat.ble (x_cat st) 8) (x_fn (k + 1) fun k' => x_fn (n + 6) fun n' => some (u + 2, (0, 0), w, k', n'))
theorem x_names : ["java/lang/RuntimeException", "java/lang/Exception"].all Bundle.fit = true := by decide +kernel
theorem x_thrAt {Zn : List (String × String)} {Zd : List MethodName} {cls : String} {ik ic : Nat} {args : Array Value} {s : State} (hts : ∀ w ∈ xTb, w.before args s = true) (h3 : ∀ q ∈ Zn, va_Nw (.castable q.1 q.2) s) (h5 : ∀ q ∈ Zd, va_Nw (.declares q) s)
    (hg : ∀ w ∈ (vx_atS own ic cls ["java/lang/RuntimeException", "java/lang/Exception"]).filter goodWord, w ∈ xTb) (hng : ∀ w ∈ (vx_atS own ic cls ["java/lang/RuntimeException", "java/lang/Exception"]).filter (fun w => !goodWord w), w ∈ Zn.map (fun q => Cond.castable q.1 q.2) ++ Zd.map (fun q => Cond.declares q)) : ∀ w ∈ vx_atS own ic cls ["java/lang/RuntimeException", "java/lang/Exception"], w.before args s = true :=
  vx_hat (fun w hw => hts w (hg w hw)) hng fun w hw => by
    rcases List.mem_append.mp hw with hw | hw
    · obtain ⟨q, hq, rfl⟩ := List.mem_map.mp hw
      exact va_Nw.use rfl (h3 q hq)
    · obtain ⟨q, hq, rfl⟩ := List.mem_map.mp hw
      exact va_Nw.use rfl (h5 q hq)
theorem xs_thr {u ik is ic : Nat} {cls text : String} (hcls : x_en u = cls) (hft : Bundle.fit cls = true) (hhe : hh = []) (hk : Cond.classLink own ik cls ∈ xTb) (hini : Cond.initialized cls ∈ xTb) (hstr : ∀ (E : xE) (s : State), x_EnD Z E s s.heap → ∃ sa, vk_R own is text sa s) (hg : ∀ w ∈ (vx_atS own ic cls ["java/lang/RuntimeException", "java/lang/Exception"]).filter goodWord, w ∈ xTb) (hng : ∀ w ∈ (vx_atS own ic cls ["java/lang/RuntimeException", "java/lang/Exception"]).filter (fun w => !goodWord w), w ∈ Z.2.2.1.map (fun q => Cond.castable q.1 q.2) ++ Z.2.2.2.2.1.map (fun q => Cond.declares q)) (hgd : ∀ w ∈ Cond.classLink own ik cls :: Cond.initialized cls :: vx_atS own ic cls ["java/lang/RuntimeException", "java/lang/Exception"], vx_ot w = true) (d0 : decode cc pc = .ok (.new ik, 3)) (d3 : decode cc (pc + 3) = .ok (.dup, 1)) (d4 : decode cc (pc + 4) = .ok (.ldc is, 2)) (d6 : decode cc (pc + 6) = .ok (.invokespecial ic, 3)) (d9 : decode cc (pc + 9) = .ok (.athrow, 1)) : x_Ok ms Z own nm cc nL rt hh pc (xo_thr u) := by
  intro d fn hfn E al0 r p l e R s m args below meth c Q hC cont ih ls st w k n h
  obtain ⟨h0, h⟩ := x_if_some h
  rw [x_fn_eq, x_fn_eq] at h
  cases h
  obtain ⟨hx, hb, hml, ho, hts, hK, hE, hb0, hlk, hfl, -, htab, hF, ⟨hR3, hR4, hR1, hR2⟩, -, hthr⟩ := hC
  dsimp only at hR1 hR2
  refine ⟨Nat.le_succ k, Nat.le_add_right n 6, fun ws H locs als lv vst hW hal hS hl hL hV => ?_⟩
  obtain ⟨Qc, XC, rfl, hXC⟩ := hthr (by show 2 ≤ u + 2; omega)
  obtain ⟨sa, hsa⟩ := hstr E s hE
  have hcat : (vst.map fun v => v.category).sum ≤ 8 := Nat.le_trans (x_cat_le hV) (Nat.le_of_ble_eq_true h0)
  refine vx_throwS (A := x_A E) (names := ["java/lang/RuntimeException", "java/lang/Exception"]) (sa := sa) (text := text) hx hb hfl ho hft (fun z hz => List.all_eq_true.mp x_names z hz) (hts _ hk) (hts _ hini) hsa (x_thrAt (ik := ik) hts hE.2.2.2.2.2.1.2.2.1 hE.2.2.2.2.2.1.2.2.2.2 hg hng) hgd hE.1.1 hE.1.2 hS (hl.1.trans hml.symm) d0 d3 d4 d6 d9 (fun x hx9 => by rw [htab, hhe] at hx9; cases hx9) (by show 5 < R.frames; omega) (by show _ + 82 ≤ R.locals; omega) hR1 hR2 hlk (fun t hvm hsz hq => ?_) (fun z hz => hS.2.2 z hz) (Nat.le_refl _) (Nat.le_refl _)
  have h1 := hXC t ws ⟨hW.1, hW.2.1.kept fun j q hj => hq q.1 ((hW.2.1 j q hj).lt), hW.2.2⟩ hal ⟨Nat.le_trans hS.1 hsz, fun q9 h1 h2 => (hq q9 (Nat.lt_of_lt_of_le h1 hS.1)).trans (hS.2.1 q9 h1 h2)⟩
  rw [← hcls]
  exact h1
theorem xs_thrW {u ik is ic : Nat} {cls text : String} (hcls : x_en u = cls) (hft : Bundle.fit cls = true) (hhe : hh = []) (hk : Cond.classLink own ik cls ∈ xTb) (hini : Cond.initialized cls ∈ xTb) (hstr : ∀ (E : xE) (s : State), x_EnD Z E s s.heap → ∃ sa, vk_R own is text sa s) (hg : ∀ w ∈ (vx_atS own ic cls ["java/lang/RuntimeException", "java/lang/Exception"]).filter goodWord, w ∈ xTb) (hng : ∀ w ∈ (vx_atS own ic cls ["java/lang/RuntimeException", "java/lang/Exception"]).filter (fun w => !goodWord w), w ∈ Z.2.2.1.map (fun q => Cond.castable q.1 q.2) ++ Z.2.2.2.2.1.map (fun q => Cond.declares q)) (hgd : ∀ w ∈ Cond.classLink own ik cls :: Cond.initialized cls :: vx_atS own ic cls ["java/lang/RuntimeException", "java/lang/Exception"], vx_ot w = true) (d0 : decode cc pc = .ok (.new ik, 3)) (d3 : decode cc (pc + 3) = .ok (.dup, 1)) (d4 : decode cc (pc + 4) = .ok (.ldc_w is, 3)) (d6 : decode cc (pc + 7) = .ok (.invokespecial ic, 3)) (d9 : decode cc (pc + 10) = .ok (.athrow, 1)) : x_Ok ms Z own nm cc nL rt hh pc (xo_thr u) := by
  intro d fn hfn E al0 r p l e R s m args below meth c Q hC cont ih ls st w k n h
  obtain ⟨h0, h⟩ := x_if_some h
  rw [x_fn_eq, x_fn_eq] at h
  cases h
  obtain ⟨hx, hb, hml, ho, hts, hK, hE, hb0, hlk, hfl, -, htab, hF, ⟨hR3, hR4, hR1, hR2⟩, -, hthr⟩ := hC
  dsimp only at hR1 hR2
  refine ⟨Nat.le_succ k, Nat.le_add_right n 6, fun ws H locs als lv vst hW hal hS hl hL hV => ?_⟩
  obtain ⟨Qc, XC, rfl, hXC⟩ := hthr (by show 2 ≤ u + 2; omega)
  obtain ⟨sa, hsa⟩ := hstr E s hE
  have hcat : (vst.map fun v => v.category).sum ≤ 8 := Nat.le_trans (x_cat_le hV) (Nat.le_of_ble_eq_true h0)
  refine vx_throwSW (A := x_A E) (names := ["java/lang/RuntimeException", "java/lang/Exception"]) (sa := sa) (text := text) hx hb hfl ho hft (fun z hz => List.all_eq_true.mp x_names z hz) (hts _ hk) (hts _ hini) hsa (x_thrAt (ik := ik) hts hE.2.2.2.2.2.1.2.2.1 hE.2.2.2.2.2.1.2.2.2.2 hg hng) hgd hE.1.1 hE.1.2 hS (hl.1.trans hml.symm) d0 d3 d4 d6 d9 (fun x hx9 => by rw [htab, hhe] at hx9; cases hx9) (by show 5 < R.frames; omega) (by show _ + 82 ≤ R.locals; omega) hR1 hR2 hlk (fun t hvm hsz hq => ?_) (fun z hz => hS.2.2 z hz) (Nat.le_refl _) (Nat.le_refl _)
  have h1 := hXC t ws ⟨hW.1, hW.2.1.kept fun j q hj => hq q.1 ((hW.2.1 j q hj).lt), hW.2.2⟩ hal ⟨Nat.le_trans hS.1 hsz, fun q9 h1 h2 => (hq q9 (Nat.lt_of_lt_of_le h1 hS.1)).trans (hS.2.1 q9 h1 h2)⟩
  rw [← hcls]
  exact h1
/-- a call whose exception is caught by the first handler -/
noncomputable def x_backH (u hp : Nat) (c : xK) (nx : Nat) (ls t : List xV) (k n : Nat) (o : Option xT) : Option xT := match o with
  | none => none
  | some (kd, v, w', dk, dn) => x_fn (k + dk) fun k' => x_fn (n + dn) fun n' => x_br (Nat.beq kd 0) (c nx ls (v :: t) w' k' n') (x_br (Nat.beq kd 1) (c nx ls t w' k' n') (x_if (Nat.beq kd (u + 2)) (c hp ls [(8, 0)] w' k' n')))
theorem x_backH_some {u hp : Nat} {c : xK} {nx : Nat} {ls t : List xV} {k n : Nat} {o : Option xT} {r : xT} (h : x_backH u hp c nx ls t k n o = some r) : ∃ r2 : xT, o = some r2 ∧ ((r2.1 = 0 ∧ c nx ls (r2.2.1 :: t) r2.2.2.1 (k + r2.2.2.2.1) (n + r2.2.2.2.2) = some r) ∨ (r2.1 = 1 ∧ c nx ls t r2.2.2.1 (k + r2.2.2.2.1) (n + r2.2.2.2.2) = some r) ∨ (r2.1 = u + 2 ∧ c hp ls [(8, 0)] r2.2.2.1 (k + r2.2.2.2.1) (n + r2.2.2.2.2) = some r)) := by
  cases o with
  | none => cases h
  | some r2 =>
    obtain ⟨kd, v, w', dk, dn⟩ := r2
    have h' : x_fn (k + dk) (fun k' => x_fn (n + dn) fun n' => x_br (Nat.beq kd 0) (c nx ls (v :: t) w' k' n') (x_br (Nat.beq kd 1) (c nx ls t w' k' n') (x_if (Nat.beq kd (u + 2)) (c hp ls [(8, 0)] w' k' n')))) = some r := h
    rw [x_fn_eq, x_fn_eq] at h'
    refine ⟨_, rfl, ?_⟩
    cases h0 : Nat.beq kd 0 with
    | true =>
      rw [h0] at h'
      exact Or.inl ⟨Nat.eq_of_beq_eq_true h0, h'⟩
    | false =>
      rw [h0] at h'
      cases h1 : Nat.beq kd 1 with
      | true =>
        have h2 : x_br (Nat.beq kd 1) (c nx ls t w' (k + dk) (n + dn)) (x_if (Nat.beq kd (u + 2)) (c hp ls [(8, 0)] w' (k + dk) (n + dn))) = some r := h'
        rw [h1] at h2
        exact Or.inr (Or.inl ⟨Nat.eq_of_beq_eq_true h1, h2⟩)
      | false =>
        have h2 : x_br (Nat.beq kd 1) (c nx ls t w' (k + dk) (n + dn)) (x_if (Nat.beq kd (u + 2)) (c hp ls [(8, 0)] w' (k + dk) (n + dn))) = some r := h'
        rw [h1] at h2
        obtain ⟨h3, h4⟩ := x_if_some (b := Nat.beq kd (u + 2)) h2
        exact Or.inr (Or.inr ⟨Nat.eq_of_beq_eq_true h3, h4⟩)
noncomputable def xo_invH (ck : xW → List xV → Bool) (u hp v na nx : Nat) : xO := fun fn c ls st w k n => x_args na st [] fun av t => x_if (ck w av && Nat.ble (x_cat t) 8) (x_backH u hp c nx ls t k n (fn v av w))
theorem xs_invH {ck : xW → List xV → Bool} {u v na dp s0 e0 hp ct : Nat} {hs : List (Nat × Nat × Nat × Nat)} {M : xM} (hu : ms[v]? = some M) (hhe : hh = (s0, e0, hp, ct) :: hs) (hcv : covers ⟨s0, e0, hp, ct⟩ pc = true) (hct : ct ≠ 0) (hcl : Cond.classLink own ct (x_en u) ∈ xTb) (hca : (x_en u, x_en u) ∈ Z.2.2.1) (row : x_CallRow na dp M own nm cc nL rt hh pc Z ck) : x_Ok ms Z own nm cc nL rt hh pc (xo_invH ck u hp v na (pc + dp)) := by
  intro d fn hfn E al0 r p l e R s m args below meth c Q hC cont ih ls st w k n h
  replace h := x_args_some h
  obtain ⟨av, t, hna, rfl, h⟩ := h
  rw [List.append_nil] at h
  obtain ⟨h0, h⟩ := x_if_some h
  obtain ⟨r2, h1, h⟩ := x_backH_some h
  simp only [Bool.and_eq_true] at h0
  have hctr := hfn v M av w r2 hu h1
  have hC' := hC
  obtain ⟨hx, hb, hml, ho, hts, hK, hE, hb0, hlk, hfl, -, htab, hF, ⟨hR3, hR4, hR1, hR2⟩, -, hthr⟩ := hC
  have hkn : k + r2.2.2.2.1 ≤ r.2.2.2.1 ∧ n + r2.2.2.2.2 ≤ r.2.2.2.2 := by
    rcases h with ⟨-, h⟩ | ⟨-, h⟩ | ⟨-, h⟩
    · have g := ih _ _ _ _ _ _ h
      exact ⟨g.1, g.2.1⟩
    · have g := ih _ _ _ _ _ _ h
      exact ⟨g.1, g.2.1⟩
    · have g := ih _ _ _ _ _ _ h
      exact ⟨g.1, g.2.1⟩
  refine ⟨Nat.le_trans (Nat.le_add_right _ _) hkn.1, Nat.le_trans (Nat.le_add_right _ _) hkn.2, fun ws H locs als lv vst hW hal hS hl hL hV => ?_⟩
  obtain ⟨m1, m2, rfl, hV1, hV2⟩ := hV.split
  have hV3 := hV1.rev
  rw [List.reverse_reverse] at hV3
  have hcat : (m2.map fun v => v.category).sum ≤ 8 := Nat.le_trans (x_cat_le hV2) (Nat.le_of_ble_eq_true h0.2)
  have hrow := row d E al0 r p l e R s m args below meth c Q hC' w ws H locs als k n av m1.reverse m2 r2 hl.1 hW hS hna hV3 h0.1 hcat (Nat.le_trans hkn.1 hR1) (Nat.le_trans hkn.2 hR2) (hctr l E m1.reverse ws hfl hF hV3)
  rw [List.reverse_reverse] at hrow
  refine x_after hrow hS (fun vo ws' H1 locs1 hro hW1 hal1 hS1 => ?_) (fun h2 q9 ce ws' H1 locs1 hW1 hal1 hS1 hce hcv9 hcl9 => ?_)
  · rcases hro with ⟨hk0, V, rfl, hV4⟩ | ⟨hk1, rfl⟩
    · rcases h with ⟨-, h⟩ | ⟨h9, -⟩ | ⟨h9, -⟩
      · exact (ih _ _ _ _ _ _ h).2.2 ws' H1 locs1 als lv (V :: m2) hW1 (hal.trans hal1) hS1 hl (hL.mono hal1) ⟨hV4, hV2.mono hal1⟩
      · omega
      · omega
    · rcases h with ⟨h9, -⟩ | ⟨-, h⟩ | ⟨h9, -⟩
      · omega
      · exact (ih _ _ _ _ _ _ h).2.2 ws' H1 locs1 als lv m2 hW1 (hal.trans hal1) hS1 hl (hL.mono hal1) (hV2.mono hal1)
      · omega
  · rcases h with ⟨h9, -⟩ | ⟨h9, -⟩ | ⟨h9, h⟩
    · omega
    · omega
    · have he : r2.1 - 2 = u := by omega
      rw [he] at hcl9
      exact vx_catch (own := own) (name := x_en u) ho [] ⟨s0, e0, hp, ct⟩ (tableOf hs) (by rw [htab, hhe]; rfl) (fun z hz => nomatch hz) hcv hct (hts _ hcl) (va_Nw.use rfl (hE.2.2.2.2.2.1.2.2.1 _ hca)) hce hcv9 hcl9 ((ih _ _ _ _ _ _ h).2.2 ws' H1 locs1 als lv [.ref q9] hW1 (hal.trans hal1) hS1 hl (hL.mono hal1) ⟨⟨q9, rfl⟩, trivial⟩)
end XEND
end
section
/-! COPIES OF ROWS; A METHOD'S RUN, AND ITS CONTRACT -/
section XRUN
variable {ms : List xM} {Z : xD} {own nm : String} {cc : ByteArray} {nL : Nat} {rt : Option FieldType} {hh : List (Nat × Nat × Nat × Nat)} {pc : Nat}
/-- each of them null or a row of ints -/
noncomputable def x_ck (w : xW) (l : List xV) : Bool := List.rec (motive := fun _ => Bool) true (fun v _ ih => (Nat.beq v.1 0 || (x_isT 1 v && x_at w (fun q => Nat.beq q.1 100) v.2)) && ih) l
theorem x_ck_all {w : xW} {l : List xV} (h : x_ck w l = true) : ∀ v ∈ l, v.1 = 0 ∨ ∃ b q, v = (1, b) ∧ w[b]? = some q ∧ q.1 = 100 := by
  induction l with
  | nil => intro v hv; cases hv
  | cons a t ih =>
    have h' : ((Nat.beq a.1 0 || (x_isT 1 a && x_at w (fun q => Nat.beq q.1 100) a.2)) && x_ck w t) = true := h
    simp only [Bool.and_eq_true, Bool.or_eq_true] at h'
    intro v hv
    rcases List.mem_cons.mp hv with rfl | hv
    · rcases h'.1 with h1 | ⟨h1, h2⟩
      · exact Or.inl (Nat.eq_of_beq_eq_true h1)
      · obtain ⟨b, rfl⟩ := x_isT_of h1
        obtain ⟨q, h3, h4⟩ := x_at_some h2
        exact Or.inr ⟨b, q, rfl, h3, Nat.eq_of_beq_eq_true h4⟩
    · exact ih h'.2 v hv
noncomputable def xo_acp (nx : Nat) : xO := fun _ c ls st w k n => x_pop st fun nv t => x_pop t fun dv t => x_pop t fun bv t => x_pop t fun sv t => x_pop t fun av t => x_tag 2 nv fun N => x_tag 2 dv fun dp => x_tag 1 bv fun b => x_tag 2 sv fun sp => x_tag 1 av fun a => x_nth w a fun qa => x_nth w b fun qb => x_if (Nat.beq qa.1 103 && (Nat.beq qb.1 103 && (Nat.ble (sp + N) qa.2.length && (Nat.ble (dp + N) qb.2.length && (Nat.ble (sp + (dp + N)) 100000 && (x_ck w ((qa.2.drop sp).take N) && Nat.ble (x_cat t) 8))))))
  (x_app [] ((qb.2.take dp ++ (qa.2.drop sp).take N) ++ qb.2.drop (dp + N)) fun l' => x_set (103, l') w b fun w' => c nx ls t w' k n)
theorem x_spl {l0 l1 : List xV} {sp dp N j : Nat} {u : xV} (h0 : sp + N ≤ l0.length) (h1 : dp + N ≤ l1.length) (h : ((l1.take dp ++ (l0.drop sp).take N) ++ l1.drop (dp + N))[j]? = some u) : (dp ≤ j ∧ j < dp + N ∧ l0[sp + (j - dp)]? = some u) ∨ (¬ (dp ≤ j ∧ j < dp + N) ∧ l1[j]? = some u) := by
  have e1 : (l1.take dp).length = dp := by rw [List.length_take]; omega
  have e2 : ((l0.drop sp).take N).length = N := by rw [List.length_take, List.length_drop]; omega
  by_cases hj1 : j < dp
  · rw [List.append_assoc, List.getElem?_append_left (by omega), List.getElem?_take, if_pos hj1] at h
    exact Or.inr ⟨by omega, h⟩
  · by_cases hj2 : j < dp + N
    · rw [List.append_assoc, List.getElem?_append_right (by omega), List.getElem?_append_left (by omega), e1, List.getElem?_take, if_pos (by omega), List.getElem?_drop] at h
      exact Or.inl ⟨by omega, hj2, h⟩
    · rw [List.getElem?_append_right (by rw [List.length_append]; omega), List.length_append, e1, e2, List.getElem?_drop, show dp + N + (j - (dp + N)) = j by omega] at h
      exact Or.inr ⟨by omega, h⟩
theorem xs_acp {index : Nat} (hlk : Cond.methodLink own index arraycopyName ∈ xTb) (hnt : Cond.native arraycopyName ∈ xTb) (hst : Cond.static arraycopyName ∈ xTb) (hini : Cond.initialized "java/lang/System" ∈ xTb) (hca : ("[I", "java/lang/Object") ∈ Z.2.2.1) (hnf : nativeFrameWords "java/lang/System" "arraycopy" 5 + 11 ≤ 100) (hd : decode cc pc = .ok (.invokestatic index, 3)) : x_Ok ms Z own nm cc nL rt hh pc (xo_acp (pc + 3)) := by
  intro d fn hfn E al0 r p l e R s m args below meth c Q hC cont ih ls st w k n h
  replace h := x_pop_some h
  obtain ⟨nv, t, rfl, h⟩ := h
  replace h := x_pop_some h
  obtain ⟨dv, t, rfl, h⟩ := h
  replace h := x_pop_some h
  obtain ⟨bv, t, rfl, h⟩ := h
  replace h := x_pop_some h
  obtain ⟨sv, t, rfl, h⟩ := h
  replace h := x_pop_some h
  obtain ⟨av, t, rfl, h⟩ := h
  replace h := x_tag_some h
  obtain ⟨N, rfl, h⟩ := h
  replace h := x_tag_some h
  obtain ⟨dp, rfl, h⟩ := h
  replace h := x_tag_some h
  obtain ⟨b, rfl, h⟩ := h
  replace h := x_tag_some h
  obtain ⟨sp, rfl, h⟩ := h
  replace h := x_tag_some h
  obtain ⟨a, rfl, h⟩ := h
  obtain ⟨qa, h1, h⟩ := x_nth_some h
  obtain ⟨qb, h2, h⟩ := x_nth_some h
  obtain ⟨h0, h⟩ := x_if_some h
  rw [x_app_eq, List.append_nil] at h
  obtain ⟨h3, h⟩ := x_set_some h
  have g := ih _ _ _ _ _ _ h
  simp only [Bool.and_eq_true] at h0
  obtain ⟨c1, c2, c3, c4, c5, c6, c7⟩ := h0
  have k1 : qa.1 = 103 := Nat.eq_of_beq_eq_true c1
  have k2 : qb.1 = 103 := Nat.eq_of_beq_eq_true c2
  have k3 : sp + N ≤ qa.2.length := Nat.le_of_ble_eq_true c3
  have k4 : dp + N ≤ qb.2.length := Nat.le_of_ble_eq_true c4
  have k5 : sp + (dp + N) ≤ 100000 := Nat.le_of_ble_eq_true c5
  have k6 := x_ck_all c6
  have k7 : x_cat t ≤ 8 := Nat.le_of_ble_eq_true c7
  obtain ⟨hx, hb, hml, ho, hts, hK, hE, hb0, -, -, -, -, -, ⟨hR3, hR4, hR1, hR2⟩, -⟩ := hC
  refine ⟨g.1, g.2.1, fun ws H locs als lv vst hW hal hS hl hL hV => ?_⟩
  replace hV := hV.cons
  obtain ⟨V1, vst, rfl, z1, hV⟩ := hV
  replace hV := hV.cons
  obtain ⟨V2, vst, rfl, z2, hV⟩ := hV
  replace hV := hV.cons
  obtain ⟨V3, vst, rfl, ⟨bb, z3, rfl⟩, hV⟩ := hV
  replace hV := hV.cons
  obtain ⟨V4, vst, rfl, z4, hV⟩ := hV
  replace hV := hV.cons
  obtain ⟨V5, vst, rfl, ⟨aa, z5, rfl⟩, hV⟩ := hV
  cases z1
  cases z2
  cases z4
  obtain ⟨ea, y1, y2⟩ := hW.1.get h1 z5
  obtain ⟨eb, y3, y4⟩ := hW.1.get h2 z3
  obtain ⟨-, f, rfl, hf⟩ := x_RC_q y2 (by omega)
  obtain ⟨-, gg, rfl, hg⟩ := x_RC_q y4 (by omega)
  rw [k1] at y1
  rw [k2] at y3
  have n1 : N < 2 ^ 31 := by omega
  have n2 : dp < 2 ^ 31 := by omega
  have n3 : sp < 2 ^ 31 := by omega
  have hct := x_cat_le hV
  refine va_copyM (E0 := "java/lang/Object") (E1 := "java/lang/Object") hx hb (hml.trans hl.1.symm) ho (hts _ hlk) (hts _ hnt) (hts _ hst) (hts _ hini) hK hW.2.1 hW.2.2 hS a b 3 3 y1 y3 rfl rfl (nI_pos n3) (nI_pos n2) (nI_pos n1) (by rw [nI_clamp n3, nI_clamp n1]; exact k3) (by rw [nI_clamp n2, nI_clamp n1]; exact k4) (fun i hi y hy => ?_) (by omega) (by omega) hd fun H1 locs1 hP hD hS1 => ?_
  · rw [nI_clamp n1] at hi
    rw [nI_clamp n3] at hy
    have hlt : sp + i < qa.2.length := by omega
    have hu : qa.2[sp + i]? = some qa.2[sp + i] := List.getElem?_eq_getElem hlt
    have hm : qa.2[sp + i] ∈ (qa.2.drop sp).take N := by
      refine List.mem_of_getElem? (i := i) ?_
      rw [List.getElem?_take, if_pos hi, List.getElem?_drop]
      exact hu
    have hr := hf _ _ hu
    rw [hy] at hr
    rcases k6 _ hm with q0 | ⟨b2, q2, e2, w2, q3⟩
    · generalize qa.2[sp + i] = u at q0 hr
      obtain ⟨tu, ju⟩ := u
      dsimp only at q0
      subst q0
      cases hr
    · rw [e2] at hr
      obtain ⟨a2, r1, r2⟩ := hr
      have ea2 : y = a2 := by
        have : Value.ref y = .ref a2 := r2
        injection this
      subst ea2
      obtain ⟨e3, r3, r4⟩ := hW.1.get w2 r1
      obtain ⟨f3, rfl, -⟩ := x_RC_i r4 q3
      exact x_anyI hK hW.2.1 r3 (hE.2.2.2.2.2.1.2.2.1 _ hca)
  · rw [nI_clamp n1, nI_clamp n2, nI_clamp n3] at hP hD
    have ha := x_al_set (e' := .inl (E.2.1 (103 - 100), qb.2.length, .inr (.inr (.inr (.inr (va_cpy f gg sp dp N)))))) y3
    refine g.2.2 _ H1 locs1 als lv vst ⟨hW.1.set y3 (Or.inr (Or.inr (Or.inr (Or.inr ⟨(by decide : (103 : Nat) ≤ 103), (by decide : (103 : Nat) < 107), va_cpy f gg sp dp N, ?_, fun j u hj => ?_⟩)))), hP, hD⟩ (by rw [ha]; exact hal) hS1 hl (by rw [ha]; exact hL) (by rw [ha]; exact hV)
    · have : ((qb.2.take dp ++ (qa.2.drop sp).take N) ++ qb.2.drop (dp + N)).length = qb.2.length := by
        simp only [List.length_append, List.length_take, List.length_drop]
        omega
      show (Sum.inl (E.2.1 (103 - 100), qb.2.length, _) : va_E) = .inl (E.2.1 (103 - 100), ((qb.2.take dp ++ (qa.2.drop sp).take N) ++ qb.2.drop (dp + N)).length, _)
      rw [this]
    · rcases x_spl k3 k4 hj with ⟨s1, s2, s3⟩ | ⟨s1, s3⟩
      · simp only [va_cpy, if_pos (And.intro s1 s2)]
        exact hf _ _ s3
      · simp only [va_cpy, if_neg s1]
        exact hg _ _ s3
/-- the code, in rows of sixteen, by its bytes' places -/
noncomputable def x_look {β : Type} (code : List (List xO)) (pc : Nat) (kk : xO → Option β) : Option β := x_nth code (pc / 16) fun row => x_nth row (pc % 16) kk
noncomputable def x_loop (code : List (List xO)) (fn : xF) (N : Nat) : xK := Nat.rec (motive := fun _ => xK) (fun _ _ _ _ _ _ => none) (fun _ ih pc ls st w k n => x_look code pc fun o => o fn ih ls st w k n) N
def x_ini : List xV → List xV
  | [] => []
  | v :: t => if x_c1 v then v :: x_ini t else v :: (9, 0) :: x_ini t
abbrev xQ : Type := List (List xO) × Nat
noncomputable def x_run (pr : List xQ) (d : Nat) : xF := Nat.rec (motive := fun _ => xF) (fun _ _ _ => none) (fun _ ih u av w => x_nth pr u fun q => x_if (Nat.ble (x_ini av).length q.2) (x_app [] (x_ini av ++ List.replicate (q.2 - (x_ini av).length) (9, 0)) fun ls => x_loop q.1 ih 1000000 0 ls [] w 0 0)) d
/-- as vx_ofW, of a method that no native stands for -/
theorem vx_ofWF {l : Launch} {y : MethodName} {ws ws' : List Cond} {rm : Room} {Pc : Array Value → State → Prop} {Qc : Array Value → State → Outcome → State → Prop} {XC : String → State → State → Prop} {mc ms : Nat} {free : Addr → Prop} {cc : ByteArray} {maxL : Nat} {ret : Option FieldType}
    (hy : plainFor y = true) (hw : ws = Cond.code y cc maxL ret :: ws')
    (body : ∀ p e s m args below meth c s₁, BodyLoose p l y (headSpec ws rm) cc maxL ret e s m args below meth c s₁ → c.maxLocals = maxL → (∀ x ∈ c.exceptionTable.toList, False) → Pc args s →
      W p l e (headSpec ws rm).room s m args below meth c s.heap [] 0 0 (vx_MQ below Qc XC args s mc ms free) (entryFrame m args maxL)) : vx_Met l y ws rm Pc Qc XC mc ms free := by
  refine MetFree.of_bodySF (code := cc) (maxLocals := maxL) (ret := ret) hy ?_ ?_
  · intro args s m h hn
    obtain ⟨meth, c, h1, h2, h3, h4, h5, h6, -, -⟩ := Cond.code_spec hn (atoms_spec (ws := ws) h _ (by rw [hw]; exact List.mem_cons_self))
    exact ⟨meth, c, h1, h2, h3, h4, h5, h6⟩
  · intro p e s m args below meth c s₁ B hml hP _
    have hh0 : s₁.heap = s.heap := by rw [B.state]; rfl
    have ht : ∀ x ∈ c.exceptionTable.toList, False := by
      obtain ⟨meth9, c9, h1, h2, -, -, -, -, h7, -⟩ := Cond.code_spec B.named (atoms_spec (ws := ws) B.pre _ (by rw [hw]; exact List.mem_cons_self))
      cases Option.some.inj (h1.symm.trans B.method)
      cases Option.some.inj (h2.symm.trans (Stand.of_body B).code)
      intro x hx
      rw [Array.isEmpty_iff.mp h7] at hx
      cases hx
    obtain ⟨t, a1, o, b1, b2, b3⟩ := body p e s m args below meth c s₁ B hml ht hP s₁ hh0 (Stand.of_body B)
    exact ⟨t, o, a1, b1, b2, b3⟩
/-- a method's rows say what its bytes do -/
def x_Tab (ms : List xM) (Z : xD) (M : xM) (q : xQ) : Prop := q.2 = M.2.2.1 ∧ (plainFor M.1 && (M.2.2.2.2.isEmpty || plainName M.1.cls)) = true ∧ ∀ (pc i j : Nat) (row : List xO) (o : xO), pc = 16 * i + j → j < 16 → q.1[i]? = some row → row[j]? = some o → x_Ok ms Z M.1.cls M.1.name M.2.1 M.2.2.1 M.2.2.2.1 M.2.2.2.2 pc o
theorem x_loop_ok {code : List (List xO)} (htab : ∀ (pc i j : Nat) (row : List xO) (o : xO), pc = 16 * i + j → j < 16 → code[i]? = some row → row[j]? = some o → x_Ok ms Z own nm cc nL rt hh pc o) {d : Nat} {fn : xF} (hfn : x_Fn ms Z d fn) {E : xE} {al0 : List Nat} {r : xT} {p : Program} {l : Launch} {e : Env} {R : Room} {s : State} {m : MethodId} {args : Array Value} {below : List Frame} {meth : Method} {c : Code} {Q : State → Prop} (hC : x_Cx own nm cc nL rt hh d Z E al0 r p l e R s m args below meth c Q) : ∀ (N pc : Nat) (ls st : List xV) (w : xW) (k n : Nat), x_loop code fn N pc ls st w k n = some r → x_Gd E nL s.heap al0 (x_G p l e R s m args below meth c Q) r pc ls st w k n := by
  intro N
  induction N with
  | zero => intro pc ls st w k n h; cases h
  | succ N ih =>
    intro pc ls st w k n h
    obtain ⟨row, h1, h2⟩ := x_nth_some (show x_nth code (pc / 16) (fun row => x_nth row (pc % 16) fun o => o fn (x_loop code fn N) ls st w k n) = some r from h)
    obtain ⟨o, h3, h4⟩ := x_nth_some h2
    exact htab pc (pc / 16) (pc % 16) row o (Nat.div_add_mod pc 16).symm (Nat.mod_lt _ (by decide)) h1 h3 d fn hfn E al0 r p l e R s m args below meth c Q hC (x_loop code fn N) ih ls st w k n h4
theorem x_c2_cat {E : xE} {al : List Nat} {v : xV} {V : Value} (hi : x_c1 v = false) (h : x_rv E al v V) : V.category = 2 := by
  obtain ⟨t, n⟩ := v
  simp only [x_c1, Bool.not_eq_false', Bool.or_eq_true] at hi
  rcases hi with hi | hi
  · have e : t = 3 := Nat.eq_of_beq_eq_true hi
    subst e
    cases h
    rfl
  · have e : t = 7 := Nat.eq_of_beq_eq_true hi
    subst e
    cases h
    rfl
theorem x_ini_len {E : xE} {al : List Nat} : ∀ {av : List xV} {vs : List Value}, x_RS E al av vs → (lg_sl vs).length = (x_ini av).length
  | [], [], _ => rfl
  | v :: t, V :: m, h => by
    have ih := x_ini_len (av := t) (vs := m) h.2
    have e : lg_sl (V :: m) = (if V.category = 2 then [Slot.val V, .second] else [.val V]) ++ lg_sl m := rfl
    cases hc : x_c1 v with
    | true =>
      have h1 := x_c1_cat hc h.1
      rw [e, if_neg (by omega)]
      simp [x_ini, hc, ih]
    | false =>
      have h1 := x_c2_cat hc h.1
      rw [e, if_pos h1]
      simp [x_ini, hc, ih]
  | [], _ :: _, h => False.elim h
  | _ :: _, [], h => False.elim h
theorem x_ini_RL {E : xE} {al : List Nat} : ∀ {av : List xV} {vs : List Value} (i0 : Nat), x_RS E al av vs → ∀ (j : Nat) (v : xV), (x_ini av)[j]? = some v → v.1 ≠ 9 → ∃ V, (i0 + j, V) ∈ lv_args i0 vs ∧ x_rv E al v V
  | [], [], i0, _, j, v, hj, _ => by simp [x_ini] at hj
  | u :: t, V :: m, i0, h, j, v, hj, h9 => by
    cases hc : x_c1 u with
    | true =>
      have h1 := x_c1_cat hc h.1
      simp only [x_ini, hc, if_true] at hj
      cases j with
      | zero =>
        cases hj
        exact ⟨V, List.mem_cons_self, h.1⟩
      | succ j =>
        obtain ⟨V2, k1, k2⟩ := x_ini_RL (av := t) (vs := m) (i0 + 1) h.2 j v hj h9
        refine ⟨V2, ?_, k2⟩
        show _ ∈ (i0, V) :: lv_args (if V.category = 2 then i0 + 2 else i0 + 1) m
        rw [if_neg (by omega), show i0 + (j + 1) = i0 + 1 + j by omega]
        exact List.mem_cons_of_mem _ k1
    | false =>
      have h1 := x_c2_cat hc h.1
      simp only [x_ini, hc] at hj
      match j, hj with
      | 0, hj =>
        cases hj
        exact ⟨V, List.mem_cons_self, h.1⟩
      | 1, hj =>
        cases hj
        exact absurd rfl h9
      | j + 2, hj =>
        obtain ⟨V2, k1, k2⟩ := x_ini_RL (av := t) (vs := m) (i0 + 2) h.2 j v hj h9
        refine ⟨V2, ?_, k2⟩
        show _ ∈ (i0, V) :: lv_args (if V.category = 2 then i0 + 2 else i0 + 1) m
        rw [if_pos h1, show i0 + (j + 2) = i0 + 2 + j by omega]
        exact List.mem_cons_of_mem _ k1
  | [], _ :: _, _, h, _, _, _, _ => False.elim h
  | _ :: _, [], _, h, _, _, _, _ => False.elim h
theorem x_pad_RL {E : xE} {al : List Nat} {av : List xV} {vs : List Value} {z : Nat} (h : x_RS E al av vs) : x_RL E al (x_ini av ++ List.replicate z (9, 0)) (lv_args 0 vs) := by
  intro j v hj h9
  by_cases hl : j < (x_ini av).length
  · rw [List.getElem?_append_left hl] at hj
    obtain ⟨V, k1, k2⟩ := x_ini_RL 0 h j v hj h9
    rw [Nat.zero_add] at k1
    exact ⟨V, k1, k2⟩
  · rw [List.getElem?_append_right (by omega)] at hj
    have e := (List.mem_replicate.mp (List.mem_of_getElem? hj)).2
    subst e
    exact absurd rfl h9
set_option maxHeartbeats 1000000 in
theorem x_run_ok {pr : List xQ} (hpr : ∀ (u : Nat) (q : xQ) (M : xM), pr[u]? = some q → ms[u]? = some M → x_Tab ms Z M q) : ∀ d : Nat, x_Fn ms Z d (x_run pr d) := by
  intro d
  induction d with
  | zero => intro u M av w r hM h; cases h
  | succ d ih =>
    intro u M av w r hM h
    obtain ⟨q, h1, h2⟩ := x_nth_some (show x_nth pr u (fun q => x_if (Nat.ble (x_ini av).length q.2) (x_app [] (x_ini av ++ List.replicate (q.2 - (x_ini av).length) (9, 0)) fun ls => x_loop q.1 (x_run pr d) 1000000 0 ls [] w 0 0)) = some r from h)
    obtain ⟨h3, h4⟩ := x_if_some h2
    rw [x_app_eq, List.append_nil] at h4
    obtain ⟨t1, t2, t3⟩ := hpr u q M h1 hM
    have hlen : (x_ini av).length ≤ M.2.2.1 := by rw [← t1]; exact Nat.le_of_ble_eq_true h3
    intro l E vs ws hfl hF hV
    have body : ∀ (p : Program) (e : Env) (s : State) (m : MethodId) (args : Array Value) (below : List Frame) (meth : Method) (c : Code) (s₁ : State), BodyLoose p l M.1 (headSpec (x_ws M) (x_rm (d + 1) r)) M.2.1 M.2.2.1 M.2.2.2.1 e s m args below meth c s₁ → c.maxLocals = M.2.2.1 → c.exceptionTable.toList = tableOf M.2.2.2.2 → va_Pc vs (x_Pre Z E w ws) args s →
        W p l e (headSpec (x_ws M) (x_rm (d + 1) r)).room s m args below meth c s.heap [] 0 0 (vx_MQ below (x_Qc E (x_al ws) r) (x_Xc E (x_al ws) r) args s r.2.2.2.1 r.2.2.2.2 (x_A E)) (entryFrame m args M.2.2.1) := by
      intro p e s m args below meth c s₁ B hml htab hpc
      obtain ⟨rfl, hb0, hW, hK, hE⟩ := hpc
      have hts0 := atoms_spec (ws := x_ws M) B.pre
      have hrt := B.returns
      have hC : x_Cx M.1.cls M.1.name M.2.1 M.2.2.1 M.2.2.2.1 M.2.2.2.2 d Z E (x_al ws) r p l e (headSpec (x_ws M) (x_rm (d + 1) r)).room s m vs.toArray below meth c (vx_MQ below (x_Qc E (x_al ws) r) (x_Xc E (x_al ws) r) vs.toArray s r.2.2.2.1 r.2.2.2.2 (x_A E)) := by
        refine ⟨B.exec, B.bytes, hml, findClass_of_methodNamed B.named, fun w hw => hts0 w (List.mem_cons_of_mem _ hw), hK, hE, hb0, B.notSynchronized, hfl, (name_of_methodNamed B.named B.method).1, htab, hF, ⟨by show d + 9 ≤ d + 1 + 8; omega, Nat.le_refl _, Nat.le_refl _, Nat.le_refl _⟩, fun vo pc als H locs ws' hW' hal hS hro hri => ?_, fun h2 => ⟨_, _, rfl, fun t ws' hW' hal hF' => ⟨ws', h2, rfl, hW', hal, hF'⟩⟩⟩
        have hlk : meth.locks = false := B.notSynchronized
        have hq : ∀ t : State, t.heap = H → s.WarmedH t.vm → x_Qc E (x_al ws) r vs.toArray s (.returned vo) t := fun t ht hWt => ⟨vo, ws', rfl, hro, by rw [ht]; exact hW', hal, hS.F ht⟩
        have hf : ∀ q ∈ locs, x_A E q.base := fun q hq => hS.2.2 q hq
        refine vx_ret ?_
        rcases hri with ⟨rfl, e1, e2⟩ | ⟨x, ty, rfl, e1, e2, e3⟩ | ⟨x, rfl, e1, e2⟩ | ⟨x, rfl, e1, e2⟩ | ⟨x, rfl, e1, e2⟩ | ⟨v, ty, rfl, e1, e2, e3, e4⟩
        · exact W.vret B.exec B.bytes (hrt.trans e1) hq hf e2 hlk
        · exact W.zret B.exec B.bytes (hrt.trans e1) e2 hq hf e3 hlk
        · exact W.lret B.exec B.bytes (hrt.trans e1) hq hf e2 hlk
        · exact W.fret B.exec B.bytes (hrt.trans e1) hq hf e2 hlk
        · exact W.dret B.exec B.bytes (hrt.trans e1) hq hf e2 hlk
        · exact W.aret B.exec B.bytes (hrt.trans e1) e2 e3 hq hf e4 hlk
      have g := x_loop_ok t3 ih hC 1000000 0 _ [] w 0 0 h4
      have hl := lv_entry vs (n := M.2.2.1) (by rw [x_ini_len hV]; exact hlen)
      rw [lg_entry_eq]
      refine g.2.2 ws s.heap [] _ (lv_args 0 vs) [] hW (List.prefix_refl _) va_S.rf hl (x_pad_RL hV) trivial
    by_cases hh0 : M.2.2.2.2 = []
    · simp only [Bool.and_eq_true] at t2
      refine vx_ofWF (cc := M.2.1) (maxL := M.2.2.1) (ret := M.2.2.2.1) t2.1 (ws' := xTb) (by unfold x_ws x_hd; rw [if_pos hh0]) fun p e s m args below meth c s₁ B hml hno hpc => body p e s m args below meth c s₁ B hml ?_ hpc
      rw [hh0]
      cases hl : c.exceptionTable.toList with
      | nil => rfl
      | cons x t => exact False.elim (hno x (by rw [hl]; exact List.mem_cons_self))
    · have t4 : plainName M.1.cls = true := by
        simp only [Bool.and_eq_true, Bool.or_eq_true, List.isEmpty_iff] at t2
        rcases t2.2 with t5 | t5
        · exact absurd t5 hh0
        · exact t5
      have hw : x_ws M = Cond.codeWith M.1 M.2.1 M.2.2.1 M.2.2.2.1 M.2.2.2.2 :: xTb := by unfold x_ws x_hd; rw [if_neg hh0]
      refine vx_ofWH (cc := M.2.1) (maxL := M.2.2.1) (ret := M.2.2.2.1) (hh := M.2.2.2.2) t4 hw fun p e s m args below meth c s₁ B hml hpc => body p e s m args below meth c s₁ B hml (vx_table (x := M.1) B (atoms_spec (ws := x_ws M) B.pre _ (by rw [hw]; exact List.mem_cons_self))) hpc
end XRUN
end
