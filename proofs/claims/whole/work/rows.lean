section
-- ===== PART A: goes FIRST, ahead of the names: the tables' words, and 'selects' of the private methods out of them =====
/-- a private method of a class that the tables say can be made, by its rows of tables_1 -/
def lw_okq (q : MethodName × Nat) : Prop := (q.1.cls ≠ "java/lang/invoke/MethodHandle" ∧ q.1.cls ≠ "java/lang/invoke/VarHandle") ∧ Cond.instantiable q.1.cls q.2 ∈ tables_1 ∧ Cond.privateMethod q.1 ∈ tables_1 ∧ Cond.instanceMethod q.1 ∈ tables_1
theorem lw_p0 : lw_okq (⟨"ThreeRiddles", "found", "(I)I"⟩, 11) := ⟨⟨by decide +kernel, by decide +kernel⟩, List.mem_of_getElem? (i := 14) (by decide +kernel), List.mem_of_getElem? (i := 265) (by decide +kernel), List.mem_of_getElem? (i := 266) (by decide +kernel)⟩
theorem lw_p1 : lw_okq (⟨"ThreeRiddles", "clean", "(I)I"⟩, 11) := ⟨⟨by decide +kernel, by decide +kernel⟩, List.mem_of_getElem? (i := 14) (by decide +kernel), List.mem_of_getElem? (i := 280) (by decide +kernel), List.mem_of_getElem? (i := 281) (by decide +kernel)⟩
theorem lw_p2 : lw_okq (⟨"ThreeRiddles$Tape", "tellsLaw", "(LThreeRiddles$Court;)Z"⟩, 5) := ⟨⟨by decide +kernel, by decide +kernel⟩, List.mem_of_getElem? (i := 39) (by decide +kernel), List.mem_of_getElem? (i := 347) (by decide +kernel), List.mem_of_getElem? (i := 348) (by decide +kernel)⟩
theorem lw_p3 : lw_okq (⟨"ThreeRiddles$Tape", "takes", "(I)Z"⟩, 5) := ⟨⟨by decide +kernel, by decide +kernel⟩, List.mem_of_getElem? (i := 39) (by decide +kernel), List.mem_of_getElem? (i := 351) (by decide +kernel), List.mem_of_getElem? (i := 352) (by decide +kernel)⟩
theorem lw_p4 : lw_okq (⟨"ThreeRiddles$Tape", "next", "()I"⟩, 5) := ⟨⟨by decide +kernel, by decide +kernel⟩, List.mem_of_getElem? (i := 39) (by decide +kernel), List.mem_of_getElem? (i := 355) (by decide +kernel), List.mem_of_getElem? (i := 356) (by decide +kernel)⟩
theorem lw_p5 : lw_okq (⟨"ThreeRiddles$Tape", "faulty", "(I)Z"⟩, 5) := ⟨⟨by decide +kernel, by decide +kernel⟩, List.mem_of_getElem? (i := 39) (by decide +kernel), List.mem_of_getElem? (i := 359) (by decide +kernel), List.mem_of_getElem? (i := 360) (by decide +kernel)⟩
theorem lw_p6 : lw_okq (⟨"ThreeRiddles$Tape", "takesNumber", "(II)Z"⟩, 5) := ⟨⟨by decide +kernel, by decide +kernel⟩, List.mem_of_getElem? (i := 39) (by decide +kernel), List.mem_of_getElem? (i := 363) (by decide +kernel), List.mem_of_getElem? (i := 364) (by decide +kernel)⟩
theorem lw_p7 : lw_okq (⟨"ThreeRiddles$Tape", "tellsThings", "(LThreeRiddles$Court;)Z"⟩, 5) := ⟨⟨by decide +kernel, by decide +kernel⟩, List.mem_of_getElem? (i := 39) (by decide +kernel), List.mem_of_getElem? (i := 367) (by decide +kernel), List.mem_of_getElem? (i := 368) (by decide +kernel)⟩
theorem lw_p8 : lw_okq (⟨"ThreeRiddles$Tape", "tellsRiddles", "(LThreeRiddles$Court;)Z"⟩, 5) := ⟨⟨by decide +kernel, by decide +kernel⟩, List.mem_of_getElem? (i := 39) (by decide +kernel), List.mem_of_getElem? (i := 371) (by decide +kernel), List.mem_of_getElem? (i := 372) (by decide +kernel)⟩
theorem lw_p9 : lw_okq (⟨"ThreeRiddles$Tape", "tellsRiddle", "(LThreeRiddles$Court;I)Z"⟩, 5) := ⟨⟨by decide +kernel, by decide +kernel⟩, List.mem_of_getElem? (i := 39) (by decide +kernel), List.mem_of_getElem? (i := 378) (by decide +kernel), List.mem_of_getElem? (i := 379) (by decide +kernel)⟩
theorem lw_p10 : lw_okq (⟨"ThreeRiddles$Tape", "tellsSuitors", "(LThreeRiddles$Court;)Z"⟩, 5) := ⟨⟨by decide +kernel, by decide +kernel⟩, List.mem_of_getElem? (i := 39) (by decide +kernel), List.mem_of_getElem? (i := 395) (by decide +kernel), List.mem_of_getElem? (i := 396) (by decide +kernel)⟩
theorem lw_p11 : lw_okq (⟨"ThreeRiddles$Foretold", "gatherByTraits", "(LThreeRiddles$Court;)V"⟩, 2) := ⟨⟨by decide +kernel, by decide +kernel⟩, List.mem_of_getElem? (i := 197) (by decide +kernel), List.mem_of_getElem? (i := 602) (by decide +kernel), List.mem_of_getElem? (i := 603) (by decide +kernel)⟩
theorem lw_p12 : lw_okq (⟨"ThreeRiddles$Foretold", "fewestOfAll", "(I)I"⟩, 2) := ⟨⟨by decide +kernel, by decide +kernel⟩, List.mem_of_getElem? (i := 197) (by decide +kernel), List.mem_of_getElem? (i := 607) (by decide +kernel), List.mem_of_getElem? (i := 608) (by decide +kernel)⟩
theorem lw_p13 : lw_okq (⟨"ThreeRiddles$Foretold", "splits", "(II)Z"⟩, 2) := ⟨⟨by decide +kernel, by decide +kernel⟩, List.mem_of_getElem? (i := 197) (by decide +kernel), List.mem_of_getElem? (i := 611) (by decide +kernel), List.mem_of_getElem? (i := 612) (by decide +kernel)⟩
theorem lw_p14 : lw_okq (⟨"ThreeRiddles$Foretold", "questionsBy", "(II)I"⟩, 2) := ⟨⟨by decide +kernel, by decide +kernel⟩, List.mem_of_getElem? (i := 197) (by decide +kernel), List.mem_of_getElem? (i := 615) (by decide +kernel), List.mem_of_getElem? (i := 616) (by decide +kernel)⟩
theorem lw_p15 : lw_okq (⟨"ThreeRiddles$Foretold", "firstTrait", "(I)I"⟩, 2) := ⟨⟨by decide +kernel, by decide +kernel⟩, List.mem_of_getElem? (i := 197) (by decide +kernel), List.mem_of_getElem? (i := 620) (by decide +kernel), List.mem_of_getElem? (i := 621) (by decide +kernel)⟩
def lw_privs_1 : List (MethodName × Nat) := [(⟨"ThreeRiddles", "found", "(I)I"⟩, 11), (⟨"ThreeRiddles", "clean", "(I)I"⟩, 11), (⟨"ThreeRiddles$Tape", "tellsLaw", "(LThreeRiddles$Court;)Z"⟩, 5), (⟨"ThreeRiddles$Tape", "takes", "(I)Z"⟩, 5), (⟨"ThreeRiddles$Tape", "next", "()I"⟩, 5), (⟨"ThreeRiddles$Tape", "faulty", "(I)Z"⟩, 5), (⟨"ThreeRiddles$Tape", "takesNumber", "(II)Z"⟩, 5), (⟨"ThreeRiddles$Tape", "tellsThings", "(LThreeRiddles$Court;)Z"⟩, 5), (⟨"ThreeRiddles$Tape", "tellsRiddles", "(LThreeRiddles$Court;)Z"⟩, 5), (⟨"ThreeRiddles$Tape", "tellsRiddle", "(LThreeRiddles$Court;I)Z"⟩, 5), (⟨"ThreeRiddles$Tape", "tellsSuitors", "(LThreeRiddles$Court;)Z"⟩, 5), (⟨"ThreeRiddles$Foretold", "gatherByTraits", "(LThreeRiddles$Court;)V"⟩, 2), (⟨"ThreeRiddles$Foretold", "fewestOfAll", "(I)I"⟩, 2), (⟨"ThreeRiddles$Foretold", "splits", "(II)Z"⟩, 2), (⟨"ThreeRiddles$Foretold", "questionsBy", "(II)I"⟩, 2), (⟨"ThreeRiddles$Foretold", "firstTrait", "(I)I"⟩, 2)]
theorem lw_r1 : ∀ q ∈ lw_privs_1, lw_okq q := List.forall_mem_cons.mpr ⟨lw_p0, List.forall_mem_cons.mpr ⟨lw_p1, List.forall_mem_cons.mpr ⟨lw_p2, List.forall_mem_cons.mpr ⟨lw_p3, List.forall_mem_cons.mpr ⟨lw_p4, List.forall_mem_cons.mpr ⟨lw_p5, List.forall_mem_cons.mpr ⟨lw_p6, List.forall_mem_cons.mpr ⟨lw_p7, List.forall_mem_cons.mpr ⟨lw_p8, List.forall_mem_cons.mpr ⟨lw_p9, List.forall_mem_cons.mpr ⟨lw_p10, List.forall_mem_cons.mpr ⟨lw_p11, List.forall_mem_cons.mpr ⟨lw_p12, List.forall_mem_cons.mpr ⟨lw_p13, List.forall_mem_cons.mpr ⟨lw_p14, List.forall_mem_cons.mpr ⟨lw_p15, fun _ h => absurd h List.not_mem_nil⟩⟩⟩⟩⟩⟩⟩⟩⟩⟩⟩⟩⟩⟩⟩⟩
theorem lw_p16 : lw_okq (⟨"ThreeRiddles$Asks", "sizeOfPlain", "(LThreeRiddles$Court;I)I"⟩, 2) := ⟨⟨by decide +kernel, by decide +kernel⟩, List.mem_of_getElem? (i := 210) (by decide +kernel), List.mem_of_getElem? (i := 670) (by decide +kernel), List.mem_of_getElem? (i := 671) (by decide +kernel)⟩
theorem lw_p17 : lw_okq (⟨"ThreeRiddles$Asks", "leave", "(I)V"⟩, 2) := ⟨⟨by decide +kernel, by decide +kernel⟩, List.mem_of_getElem? (i := 210) (by decide +kernel), List.mem_of_getElem? (i := 674) (by decide +kernel), List.mem_of_getElem? (i := 675) (by decide +kernel)⟩
theorem lw_p18 : lw_okq (⟨"ThreeRiddles$Asks", "sizeOfAll", "(LThreeRiddles$Court;I)I"⟩, 2) := ⟨⟨by decide +kernel, by decide +kernel⟩, List.mem_of_getElem? (i := 210) (by decide +kernel), List.mem_of_getElem? (i := 678) (by decide +kernel), List.mem_of_getElem? (i := 679) (by decide +kernel)⟩
theorem lw_p19 : lw_okq (⟨"ThreeRiddles$Asks", "markOfPlain", "(LThreeRiddles$Court;I)I"⟩, 2) := ⟨⟨by decide +kernel, by decide +kernel⟩, List.mem_of_getElem? (i := 210) (by decide +kernel), List.mem_of_getElem? (i := 683) (by decide +kernel), List.mem_of_getElem? (i := 684) (by decide +kernel)⟩
theorem lw_p20 : lw_okq (⟨"ThreeRiddles$Asks", "markOfAll", "(I)I"⟩, 2) := ⟨⟨by decide +kernel, by decide +kernel⟩, List.mem_of_getElem? (i := 210) (by decide +kernel), List.mem_of_getElem? (i := 687) (by decide +kernel), List.mem_of_getElem? (i := 688) (by decide +kernel)⟩
theorem lw_p21 : lw_okq (⟨"ThreeRiddles$Asks", "sizeOfLying", "(LThreeRiddles$Court;I)I"⟩, 2) := ⟨⟨by decide +kernel, by decide +kernel⟩, List.mem_of_getElem? (i := 210) (by decide +kernel), List.mem_of_getElem? (i := 691) (by decide +kernel), List.mem_of_getElem? (i := 692) (by decide +kernel)⟩
theorem lw_p22 : lw_okq (⟨"ThreeRiddles$Asks", "markOfLying", "(LThreeRiddles$Court;I)I"⟩, 2) := ⟨⟨by decide +kernel, by decide +kernel⟩, List.mem_of_getElem? (i := 210) (by decide +kernel), List.mem_of_getElem? (i := 695) (by decide +kernel), List.mem_of_getElem? (i := 696) (by decide +kernel)⟩
theorem lw_p23 : lw_okq (⟨"ThreeRiddlesModel", "finds", "(I)I"⟩, 21) := ⟨⟨by decide +kernel, by decide +kernel⟩, List.mem_of_getElem? (i := 721) (by decide +kernel), List.mem_of_getElem? (i := 803) (by decide +kernel), List.mem_of_getElem? (i := 804) (by decide +kernel)⟩
theorem lw_p24 : lw_okq (⟨"ThreeRiddlesModel", "done", "(I)I"⟩, 21) := ⟨⟨by decide +kernel, by decide +kernel⟩, List.mem_of_getElem? (i := 721) (by decide +kernel), List.mem_of_getElem? (i := 808) (by decide +kernel), List.mem_of_getElem? (i := 809) (by decide +kernel)⟩
theorem lw_p25 : lw_okq (⟨"ThreeRiddlesModel", "isRead", "()Z"⟩, 21) := ⟨⟨by decide +kernel, by decide +kernel⟩, List.mem_of_getElem? (i := 721) (by decide +kernel), List.mem_of_getElem? (i := 836) (by decide +kernel), List.mem_of_getElem? (i := 837) (by decide +kernel)⟩
theorem lw_p26 : lw_okq (⟨"ThreeRiddlesModel", "isLaw", "()Z"⟩, 21) := ⟨⟨by decide +kernel, by decide +kernel⟩, List.mem_of_getElem? (i := 721) (by decide +kernel), List.mem_of_getElem? (i := 840) (by decide +kernel), List.mem_of_getElem? (i := 841) (by decide +kernel)⟩
theorem lw_p27 : lw_okq (⟨"ThreeRiddlesModel", "isSign", "(I)Z"⟩, 21) := ⟨⟨by decide +kernel, by decide +kernel⟩, List.mem_of_getElem? (i := 721) (by decide +kernel), List.mem_of_getElem? (i := 844) (by decide +kernel), List.mem_of_getElem? (i := 845) (by decide +kernel)⟩
theorem lw_p28 : lw_okq (⟨"ThreeRiddlesModel", "nextToken", "()V"⟩, 21) := ⟨⟨by decide +kernel, by decide +kernel⟩, List.mem_of_getElem? (i := 721) (by decide +kernel), List.mem_of_getElem? (i := 848) (by decide +kernel), List.mem_of_getElem? (i := 849) (by decide +kernel)⟩
theorem lw_p29 : lw_okq (⟨"ThreeRiddlesModel", "fails", "(I)Z"⟩, 21) := ⟨⟨by decide +kernel, by decide +kernel⟩, List.mem_of_getElem? (i := 721) (by decide +kernel), List.mem_of_getElem? (i := 852) (by decide +kernel), List.mem_of_getElem? (i := 853) (by decide +kernel)⟩
theorem lw_p30 : lw_okq (⟨"ThreeRiddlesModel", "isNumber", "(I)Z"⟩, 21) := ⟨⟨by decide +kernel, by decide +kernel⟩, List.mem_of_getElem? (i := 721) (by decide +kernel), List.mem_of_getElem? (i := 856) (by decide +kernel), List.mem_of_getElem? (i := 857) (by decide +kernel)⟩
theorem lw_p31 : lw_okq (⟨"ThreeRiddlesModel", "isThing", "()Z"⟩, 21) := ⟨⟨by decide +kernel, by decide +kernel⟩, List.mem_of_getElem? (i := 721) (by decide +kernel), List.mem_of_getElem? (i := 860) (by decide +kernel), List.mem_of_getElem? (i := 861) (by decide +kernel)⟩
def lw_privs_2 : List (MethodName × Nat) := [(⟨"ThreeRiddles$Asks", "sizeOfPlain", "(LThreeRiddles$Court;I)I"⟩, 2), (⟨"ThreeRiddles$Asks", "leave", "(I)V"⟩, 2), (⟨"ThreeRiddles$Asks", "sizeOfAll", "(LThreeRiddles$Court;I)I"⟩, 2), (⟨"ThreeRiddles$Asks", "markOfPlain", "(LThreeRiddles$Court;I)I"⟩, 2), (⟨"ThreeRiddles$Asks", "markOfAll", "(I)I"⟩, 2), (⟨"ThreeRiddles$Asks", "sizeOfLying", "(LThreeRiddles$Court;I)I"⟩, 2), (⟨"ThreeRiddles$Asks", "markOfLying", "(LThreeRiddles$Court;I)I"⟩, 2), (⟨"ThreeRiddlesModel", "finds", "(I)I"⟩, 21), (⟨"ThreeRiddlesModel", "done", "(I)I"⟩, 21), (⟨"ThreeRiddlesModel", "isRead", "()Z"⟩, 21), (⟨"ThreeRiddlesModel", "isLaw", "()Z"⟩, 21), (⟨"ThreeRiddlesModel", "isSign", "(I)Z"⟩, 21), (⟨"ThreeRiddlesModel", "nextToken", "()V"⟩, 21), (⟨"ThreeRiddlesModel", "fails", "(I)Z"⟩, 21), (⟨"ThreeRiddlesModel", "isNumber", "(I)Z"⟩, 21), (⟨"ThreeRiddlesModel", "isThing", "()Z"⟩, 21)]
theorem lw_r2 : ∀ q ∈ lw_privs_2, lw_okq q := List.forall_mem_cons.mpr ⟨lw_p16, List.forall_mem_cons.mpr ⟨lw_p17, List.forall_mem_cons.mpr ⟨lw_p18, List.forall_mem_cons.mpr ⟨lw_p19, List.forall_mem_cons.mpr ⟨lw_p20, List.forall_mem_cons.mpr ⟨lw_p21, List.forall_mem_cons.mpr ⟨lw_p22, List.forall_mem_cons.mpr ⟨lw_p23, List.forall_mem_cons.mpr ⟨lw_p24, List.forall_mem_cons.mpr ⟨lw_p25, List.forall_mem_cons.mpr ⟨lw_p26, List.forall_mem_cons.mpr ⟨lw_p27, List.forall_mem_cons.mpr ⟨lw_p28, List.forall_mem_cons.mpr ⟨lw_p29, List.forall_mem_cons.mpr ⟨lw_p30, List.forall_mem_cons.mpr ⟨lw_p31, fun _ h => absurd h List.not_mem_nil⟩⟩⟩⟩⟩⟩⟩⟩⟩⟩⟩⟩⟩⟩⟩⟩
theorem lw_p32 : lw_okq (⟨"ThreeRiddlesModel", "isRiddle", "()Z"⟩, 21) := ⟨⟨by decide +kernel, by decide +kernel⟩, List.mem_of_getElem? (i := 721) (by decide +kernel), List.mem_of_getElem? (i := 867) (by decide +kernel), List.mem_of_getElem? (i := 868) (by decide +kernel)⟩
theorem lw_p33 : lw_okq (⟨"ThreeRiddlesModel", "isSuitor", "()Z"⟩, 21) := ⟨⟨by decide +kernel, by decide +kernel⟩, List.mem_of_getElem? (i := 721) (by decide +kernel), List.mem_of_getElem? (i := 871) (by decide +kernel), List.mem_of_getElem? (i := 872) (by decide +kernel)⟩
theorem lw_p34 : lw_okq (⟨"ThreeRiddlesModel", "everything", "()I"⟩, 21) := ⟨⟨by decide +kernel, by decide +kernel⟩, List.mem_of_getElem? (i := 721) (by decide +kernel), List.mem_of_getElem? (i := 879) (by decide +kernel), List.mem_of_getElem? (i := 880) (by decide +kernel)⟩
theorem lw_p35 : lw_okq (⟨"ThreeRiddlesModel", "isSuitorAt", "(I)Z"⟩, 21) := ⟨⟨by decide +kernel, by decide +kernel⟩, List.mem_of_getElem? (i := 721) (by decide +kernel), List.mem_of_getElem? (i := 891) (by decide +kernel), List.mem_of_getElem? (i := 892) (by decide +kernel)⟩
theorem lw_p36 : lw_okq (⟨"ThreeRiddlesModel", "isRiddleAt", "(I)Z"⟩, 21) := ⟨⟨by decide +kernel, by decide +kernel⟩, List.mem_of_getElem? (i := 721) (by decide +kernel), List.mem_of_getElem? (i := 895) (by decide +kernel), List.mem_of_getElem? (i := 896) (by decide +kernel)⟩
theorem lw_p37 : lw_okq (⟨"ThreeRiddlesModel", "isOpen", "(I)Z"⟩, 21) := ⟨⟨by decide +kernel, by decide +kernel⟩, List.mem_of_getElem? (i := 721) (by decide +kernel), List.mem_of_getElem? (i := 899) (by decide +kernel), List.mem_of_getElem? (i := 900) (by decide +kernel)⟩
theorem lw_p38 : lw_okq (⟨"ThreeRiddlesModel", "isAnyWed", "()Z"⟩, 21) := ⟨⟨by decide +kernel, by decide +kernel⟩, List.mem_of_getElem? (i := 721) (by decide +kernel), List.mem_of_getElem? (i := 906) (by decide +kernel), List.mem_of_getElem? (i := 907) (by decide +kernel)⟩
theorem lw_p39 : lw_okq (⟨"ThreeRiddlesModel", "act", "()V"⟩, 21) := ⟨⟨by decide +kernel, by decide +kernel⟩, List.mem_of_getElem? (i := 721) (by decide +kernel), List.mem_of_getElem? (i := 911) (by decide +kernel), List.mem_of_getElem? (i := 912) (by decide +kernel)⟩
theorem lw_p40 : lw_okq (⟨"ThreeRiddlesModel", "saysAt", "(II)I"⟩, 21) := ⟨⟨by decide +kernel, by decide +kernel⟩, List.mem_of_getElem? (i := 721) (by decide +kernel), List.mem_of_getElem? (i := 915) (by decide +kernel), List.mem_of_getElem? (i := 916) (by decide +kernel)⟩
theorem lw_p41 : lw_okq (⟨"ThreeRiddlesModel", "fittersAt", "(I)I"⟩, 21) := ⟨⟨by decide +kernel, by decide +kernel⟩, List.mem_of_getElem? (i := 721) (by decide +kernel), List.mem_of_getElem? (i := 919) (by decide +kernel), List.mem_of_getElem? (i := 920) (by decide +kernel)⟩
theorem lw_p42 : lw_okq (⟨"ThreeRiddlesModel", "fittersOf", "(III)I"⟩, 21) := ⟨⟨by decide +kernel, by decide +kernel⟩, List.mem_of_getElem? (i := 721) (by decide +kernel), List.mem_of_getElem? (i := 923) (by decide +kernel), List.mem_of_getElem? (i := 924) (by decide +kernel)⟩
theorem lw_p43 : lw_okq (⟨"ThreeRiddlesModel", "answerAt", "(I)I"⟩, 21) := ⟨⟨by decide +kernel, by decide +kernel⟩, List.mem_of_getElem? (i := 721) (by decide +kernel), List.mem_of_getElem? (i := 937) (by decide +kernel), List.mem_of_getElem? (i := 938) (by decide +kernel)⟩
theorem lw_p44 : lw_okq (⟨"ThreeRiddlesModel", "sheSaysAt", "(I)I"⟩, 21) := ⟨⟨by decide +kernel, by decide +kernel⟩, List.mem_of_getElem? (i := 721) (by decide +kernel), List.mem_of_getElem? (i := 945) (by decide +kernel), List.mem_of_getElem? (i := 946) (by decide +kernel)⟩
theorem lw_p45 : lw_okq (⟨"ThreeRiddlesModel", "isThingAt", "(I)Z"⟩, 21) := ⟨⟨by decide +kernel, by decide +kernel⟩, List.mem_of_getElem? (i := 721) (by decide +kernel), List.mem_of_getElem? (i := 953) (by decide +kernel), List.mem_of_getElem? (i := 954) (by decide +kernel)⟩
theorem lw_p46 : lw_okq (⟨"ThreeRiddlesModel", "costOf", "(I)I"⟩, 21) := ⟨⟨by decide +kernel, by decide +kernel⟩, List.mem_of_getElem? (i := 721) (by decide +kernel), List.mem_of_getElem? (i := 957) (by decide +kernel), List.mem_of_getElem? (i := 958) (by decide +kernel)⟩
theorem lw_p47 : lw_okq (⟨"ThreeRiddlesModel", "isCourt", "()Z"⟩, 21) := ⟨⟨by decide +kernel, by decide +kernel⟩, List.mem_of_getElem? (i := 721) (by decide +kernel), List.mem_of_getElem? (i := 989) (by decide +kernel), List.mem_of_getElem? (i := 990) (by decide +kernel)⟩
def lw_privs_3 : List (MethodName × Nat) := [(⟨"ThreeRiddlesModel", "isRiddle", "()Z"⟩, 21), (⟨"ThreeRiddlesModel", "isSuitor", "()Z"⟩, 21), (⟨"ThreeRiddlesModel", "everything", "()I"⟩, 21), (⟨"ThreeRiddlesModel", "isSuitorAt", "(I)Z"⟩, 21), (⟨"ThreeRiddlesModel", "isRiddleAt", "(I)Z"⟩, 21), (⟨"ThreeRiddlesModel", "isOpen", "(I)Z"⟩, 21), (⟨"ThreeRiddlesModel", "isAnyWed", "()Z"⟩, 21), (⟨"ThreeRiddlesModel", "act", "()V"⟩, 21), (⟨"ThreeRiddlesModel", "saysAt", "(II)I"⟩, 21), (⟨"ThreeRiddlesModel", "fittersAt", "(I)I"⟩, 21), (⟨"ThreeRiddlesModel", "fittersOf", "(III)I"⟩, 21), (⟨"ThreeRiddlesModel", "answerAt", "(I)I"⟩, 21), (⟨"ThreeRiddlesModel", "sheSaysAt", "(I)I"⟩, 21), (⟨"ThreeRiddlesModel", "isThingAt", "(I)Z"⟩, 21), (⟨"ThreeRiddlesModel", "costOf", "(I)I"⟩, 21), (⟨"ThreeRiddlesModel", "isCourt", "()Z"⟩, 21)]
theorem lw_r3 : ∀ q ∈ lw_privs_3, lw_okq q := List.forall_mem_cons.mpr ⟨lw_p32, List.forall_mem_cons.mpr ⟨lw_p33, List.forall_mem_cons.mpr ⟨lw_p34, List.forall_mem_cons.mpr ⟨lw_p35, List.forall_mem_cons.mpr ⟨lw_p36, List.forall_mem_cons.mpr ⟨lw_p37, List.forall_mem_cons.mpr ⟨lw_p38, List.forall_mem_cons.mpr ⟨lw_p39, List.forall_mem_cons.mpr ⟨lw_p40, List.forall_mem_cons.mpr ⟨lw_p41, List.forall_mem_cons.mpr ⟨lw_p42, List.forall_mem_cons.mpr ⟨lw_p43, List.forall_mem_cons.mpr ⟨lw_p44, List.forall_mem_cons.mpr ⟨lw_p45, List.forall_mem_cons.mpr ⟨lw_p46, List.forall_mem_cons.mpr ⟨lw_p47, fun _ h => absurd h List.not_mem_nil⟩⟩⟩⟩⟩⟩⟩⟩⟩⟩⟩⟩⟩⟩⟩⟩
theorem lw_p48 : lw_okq (⟨"ThreeRiddlesModel", "deepBy", "(II)I"⟩, 21) := ⟨⟨by decide +kernel, by decide +kernel⟩, List.mem_of_getElem? (i := 721) (by decide +kernel), List.mem_of_getElem? (i := 1012) (by decide +kernel), List.mem_of_getElem? (i := 1013) (by decide +kernel)⟩
theorem lw_p49 : lw_okq (⟨"ThreeRiddlesModel", "havers", "(II)I"⟩, 21) := ⟨⟨by decide +kernel, by decide +kernel⟩, List.mem_of_getElem? (i := 721) (by decide +kernel), List.mem_of_getElem? (i := 1016) (by decide +kernel), List.mem_of_getElem? (i := 1017) (by decide +kernel)⟩
theorem lw_p50 : lw_okq (⟨"ThreeRiddlesModel", "kindAt", "(I)I"⟩, 21) := ⟨⟨by decide +kernel, by decide +kernel⟩, List.mem_of_getElem? (i := 721) (by decide +kernel), List.mem_of_getElem? (i := 1036) (by decide +kernel), List.mem_of_getElem? (i := 1037) (by decide +kernel)⟩
theorem lw_p51 : lw_okq (⟨"ThreeRiddlesModel", "sizeOf", "(I)I"⟩, 21) := ⟨⟨by decide +kernel, by decide +kernel⟩, List.mem_of_getElem? (i := 721) (by decide +kernel), List.mem_of_getElem? (i := 1051) (by decide +kernel), List.mem_of_getElem? (i := 1052) (by decide +kernel)⟩
theorem lw_p52 : lw_okq (⟨"ThreeRiddlesModel", "begins", "(I)V"⟩, 21) := ⟨⟨by decide +kernel, by decide +kernel⟩, List.mem_of_getElem? (i := 721) (by decide +kernel), List.mem_of_getElem? (i := 1055) (by decide +kernel), List.mem_of_getElem? (i := 1056) (by decide +kernel)⟩
theorem lw_p53 : lw_okq (⟨"ThreeRiddlesModel", "sizeLying", "(I)I"⟩, 21) := ⟨⟨by decide +kernel, by decide +kernel⟩, List.mem_of_getElem? (i := 721) (by decide +kernel), List.mem_of_getElem? (i := 1059) (by decide +kernel), List.mem_of_getElem? (i := 1060) (by decide +kernel)⟩
theorem lw_p54 : lw_okq (⟨"ThreeRiddlesModel", "markByKind", "(I)I"⟩, 21) := ⟨⟨by decide +kernel, by decide +kernel⟩, List.mem_of_getElem? (i := 721) (by decide +kernel), List.mem_of_getElem? (i := 1063) (by decide +kernel), List.mem_of_getElem? (i := 1064) (by decide +kernel)⟩
theorem lw_p55 : lw_okq (⟨"ThreeRiddlesModel", "markPlain", "(I)I"⟩, 21) := ⟨⟨by decide +kernel, by decide +kernel⟩, List.mem_of_getElem? (i := 721) (by decide +kernel), List.mem_of_getElem? (i := 1067) (by decide +kernel), List.mem_of_getElem? (i := 1068) (by decide +kernel)⟩
theorem lw_p56 : lw_okq (⟨"ThreeRiddlesModel", "markOf", "(I)I"⟩, 21) := ⟨⟨by decide +kernel, by decide +kernel⟩, List.mem_of_getElem? (i := 721) (by decide +kernel), List.mem_of_getElem? (i := 1071) (by decide +kernel), List.mem_of_getElem? (i := 1072) (by decide +kernel)⟩
def lw_privs_4 : List (MethodName × Nat) := [(⟨"ThreeRiddlesModel", "deepBy", "(II)I"⟩, 21), (⟨"ThreeRiddlesModel", "havers", "(II)I"⟩, 21), (⟨"ThreeRiddlesModel", "kindAt", "(I)I"⟩, 21), (⟨"ThreeRiddlesModel", "sizeOf", "(I)I"⟩, 21), (⟨"ThreeRiddlesModel", "begins", "(I)V"⟩, 21), (⟨"ThreeRiddlesModel", "sizeLying", "(I)I"⟩, 21), (⟨"ThreeRiddlesModel", "markByKind", "(I)I"⟩, 21), (⟨"ThreeRiddlesModel", "markPlain", "(I)I"⟩, 21), (⟨"ThreeRiddlesModel", "markOf", "(I)I"⟩, 21)]
theorem lw_r4 : ∀ q ∈ lw_privs_4, lw_okq q := List.forall_mem_cons.mpr ⟨lw_p48, List.forall_mem_cons.mpr ⟨lw_p49, List.forall_mem_cons.mpr ⟨lw_p50, List.forall_mem_cons.mpr ⟨lw_p51, List.forall_mem_cons.mpr ⟨lw_p52, List.forall_mem_cons.mpr ⟨lw_p53, List.forall_mem_cons.mpr ⟨lw_p54, List.forall_mem_cons.mpr ⟨lw_p55, List.forall_mem_cons.mpr ⟨lw_p56, fun _ h => absurd h List.not_mem_nil⟩⟩⟩⟩⟩⟩⟩⟩⟩
def lw_privs : List (MethodName × Nat) := lw_privs_1 ++ (lw_privs_2 ++ (lw_privs_3 ++ (lw_privs_4)))
def lw_tbl : List Cond := k2_sels lw_privs ++ tables_1
theorem lw_privs_ok : ∀ q ∈ lw_privs, lw_okq q := by
  show ∀ q ∈ lw_privs_1 ++ (lw_privs_2 ++ (lw_privs_3 ++ (lw_privs_4))), lw_okq q
  exact List.forall_mem_append.mpr ⟨lw_r1, List.forall_mem_append.mpr ⟨lw_r2, List.forall_mem_append.mpr ⟨lw_r3, lw_r4⟩⟩⟩
end
section
theorem goodIn_r {big : List Cond} (ws : List Cond) (ps : List Nat) (hp : ws = ps.filterMap (fun i => big[i]?)) (h : ws.all goodWord = true) : GoodIn big ws := by
  intro w hw
  have h1 := List.all_eq_true.mp h w hw
  rw [hp] at hw
  obtain ⟨i, -, hi⟩ := List.mem_filterMap.mp hw
  have hm : w ∈ big := by first | exact List.mem_of_getElem? hi | exact List.getElem?_mem hi
  exact ⟨hm, good_of_word h1⟩
def RX0 : String := "ThreeRiddles$Acts"
def TX0 : u_T := fun k => match k with
  | 0 => ("ThreeRiddles$Acts", "suitor", "[I", true)
  | 1 => ("ThreeRiddles$Acts", "knows", "[I", true)
  | 2 => ("ThreeRiddles$Acts", "right", "[I", true)
  | 3 => ("ThreeRiddles$Acts", "turned", "[I", true)
  | 4 => ("ThreeRiddles$Acts", "used", "[I", true)
  | 5 => ("ThreeRiddles$Acts", "paid", "[I", true)
  | 6 => ("ThreeRiddles$Acts", "next", "I", false)
  | _ => ("ThreeRiddles$Acts", "held", "I", false)
def tyX0 : Nat → FieldType := fun k => match k with
  | 0 => .array .int
  | 1 => .array .int
  | 2 => .array .int
  | 3 => .array .int
  | 4 => .array .int
  | 5 => .array .int
  | 6 => .int
  | _ => .int
theorem nmX0 : ∀ a, a < 8 → ∀ b, b < 8 → a ≠ b → (TX0 a).2.1 ≠ (TX0 b).2.1 := by decide +kernel
theorem tyX0_ok : ∀ k, k < 8 → parseFieldDescriptor (TX0 k).2.2.1 = some (tyX0 k) := by decide +kernel
abbrev cX0_init : ByteArray := prog_2_method_1_code
def yX0_init : MethodName := ⟨RX0, "<init>", "()V"⟩
abbrev cX0_forget : ByteArray := prog_2_method_2_code
def yX0_forget : MethodName := ⟨RX0, "forget", "()V"⟩
abbrev cX0_keep : ByteArray := prog_2_method_3_code
def yX0_keep : MethodName := ⟨RX0, "keep", "(LThreeRiddles$Court;I)V"⟩
abbrev cX0_takeBack : ByteArray := prog_2_method_4_code
def yX0_takeBack : MethodName := ⟨RX0, "takeBack", "(LThreeRiddles$Court;)V"⟩
def RX1 : String := "ThreeRiddles$Asks"
def TX1 : u_T := fun k => match k with
  | 0 => ("ThreeRiddles$Asks", "bodies", "[I", true)
  | _ => ("ThreeRiddles$Asks", "length", "I", false)
def tyX1 : Nat → FieldType := fun k => match k with
  | 0 => .array .int
  | _ => .int
theorem nmX1 : ∀ a, a < 2 → ∀ b, b < 2 → a ≠ b → (TX1 a).2.1 ≠ (TX1 b).2.1 := by decide +kernel
theorem tyX1_ok : ∀ k, k < 2 → parseFieldDescriptor (TX1 k).2.2.1 = some (tyX1 k) := by decide +kernel
abbrev cX1_init : ByteArray := prog_3_method_1_code
def yX1_init : MethodName := ⟨RX1, "<init>", "()V"⟩
abbrev cX1_left : ByteArray := prog_3_method_2_code
def yX1_left : MethodName := ⟨RX1, "left", "(I)I"⟩
abbrev cX1_begin : ByteArray := prog_3_method_3_code
def yX1_begin : MethodName := ⟨RX1, "begin", "(LThreeRiddles$Court;II)I"⟩
abbrev cX1_sizeOfAll : ByteArray := prog_3_method_4_code
def yX1_sizeOfAll : MethodName := ⟨RX1, "sizeOfAll", "(LThreeRiddles$Court;I)I"⟩
abbrev cX1_sizeOfPlain : ByteArray := prog_3_method_5_code
def yX1_sizeOfPlain : MethodName := ⟨RX1, "sizeOfPlain", "(LThreeRiddles$Court;I)I"⟩
abbrev cX1_sizeOfLying : ByteArray := prog_3_method_6_code
def yX1_sizeOfLying : MethodName := ⟨RX1, "sizeOfLying", "(LThreeRiddles$Court;I)I"⟩
abbrev cX1_markOfAll : ByteArray := prog_3_method_7_code
def yX1_markOfAll : MethodName := ⟨RX1, "markOfAll", "(I)I"⟩
abbrev cX1_markOfPlain : ByteArray := prog_3_method_8_code
def yX1_markOfPlain : MethodName := ⟨RX1, "markOfPlain", "(LThreeRiddles$Court;I)I"⟩
abbrev cX1_markOfLying : ByteArray := prog_3_method_9_code
def yX1_markOfLying : MethodName := ⟨RX1, "markOfLying", "(LThreeRiddles$Court;I)I"⟩
abbrev cX1_leave : ByteArray := prog_3_method_10_code
def yX1_leave : MethodName := ⟨RX1, "leave", "(I)V"⟩
def RX2 : String := "ThreeRiddles$Court"
def TX2 : u_T := fun k => match k with
  | 0 => ("ThreeRiddles$Court", "stands", "Z", false)
  | 1 => ("ThreeRiddles$Court", "she", "I", false)
  | 2 => ("ThreeRiddles$Court", "price", "I", false)
  | 3 => ("ThreeRiddles$Court", "things", "I", false)
  | 4 => ("ThreeRiddles$Court", "traits", "[I", true)
  | 5 => ("ThreeRiddles$Court", "riddles", "I", false)
  | 6 => ("ThreeRiddles$Court", "sort", "[I", true)
  | 7 => ("ThreeRiddles$Court", "yes", "[I", true)
  | 8 => ("ThreeRiddles$Court", "no", "[I", true)
  | 9 => ("ThreeRiddles$Court", "fitting", "[I", true)
  | 10 => ("ThreeRiddles$Court", "suitors", "I", false)
  | 11 => ("ThreeRiddles$Court", "knows", "[I", true)
  | 12 => ("ThreeRiddles$Court", "fate", "[I", true)
  | 13 => ("ThreeRiddles$Court", "right", "[I", true)
  | 14 => ("ThreeRiddles$Court", "turned", "[I", true)
  | 15 => ("ThreeRiddles$Court", "used", "I", false)
  | _ => ("ThreeRiddles$Court", "paid", "I", false)
def tyX2 : Nat → FieldType := fun k => match k with
  | 0 => .boolean
  | 1 => .int
  | 2 => .int
  | 3 => .int
  | 4 => .array .int
  | 5 => .int
  | 6 => .array .int
  | 7 => .array .int
  | 8 => .array .int
  | 9 => .array .int
  | 10 => .int
  | 11 => .array .int
  | 12 => .array .int
  | 13 => .array .int
  | 14 => .array .int
  | 15 => .int
  | _ => .int
theorem nmX2 : ∀ a, a < 17 → ∀ b, b < 17 → a ≠ b → (TX2 a).2.1 ≠ (TX2 b).2.1 := by decide +kernel
theorem tyX2_ok : ∀ k, k < 17 → parseFieldDescriptor (TX2 k).2.2.1 = some (tyX2 k) := by decide +kernel
abbrev cX2_init : ByteArray := prog_4_method_1_code
def yX2_init : MethodName := ⟨RX2, "<init>", "()V"⟩
abbrev cX2_sortOf : ByteArray := prog_4_method_2_code
def yX2_sortOf : MethodName := ⟨RX2, "sortOf", "(I)I"⟩
abbrev cX2_isSort : ByteArray := prog_4_method_3_code
def yX2_isSort : MethodName := ⟨RX2, "isSort", "(I)Z"⟩
abbrev cX2_isOfKind : ByteArray := prog_4_method_4_code
def yX2_isOfKind : MethodName := ⟨RX2, "isOfKind", "(II)Z"⟩
abbrev cX2_fits : ByteArray := prog_4_method_5_code
def yX2_fits : MethodName := ⟨RX2, "fits", "(IIII)Z"⟩
abbrev cX2_least : ByteArray := prog_4_method_6_code
def yX2_least : MethodName := ⟨RX2, "least", "(I)I"⟩
abbrev cX2_clear : ByteArray := prog_4_method_7_code
def yX2_clear : MethodName := ⟨RX2, "clear", "()V"⟩
abbrev cX2_become : ByteArray := prog_4_method_8_code
def yX2_become : MethodName := ⟨RX2, "become", "(LThreeRiddles$Court;)V"⟩
abbrev cX2_allThings : ByteArray := prog_4_method_9_code
def yX2_allThings : MethodName := ⟨RX2, "allThings", "()I"⟩
abbrev cX2_thingsFitting : ByteArray := prog_4_method_10_code
def yX2_thingsFitting : MethodName := ⟨RX2, "thingsFitting", "(III)I"⟩
abbrev cX2_answer : ByteArray := prog_4_method_11_code
def yX2_answer : MethodName := ⟨RX2, "answer", "(I)I"⟩
abbrev cX2_heSays : ByteArray := prog_4_method_12_code
def yX2_heSays : MethodName := ⟨RX2, "heSays", "(II)I"⟩
abbrev cX2_sheSays : ByteArray := prog_4_method_13_code
def yX2_sheSays : MethodName := ⟨RX2, "sheSays", "(I)I"⟩
abbrev cX2_isKnown : ByteArray := prog_4_method_14_code
def yX2_isKnown : MethodName := ⟨RX2, "isKnown", "(II)Z"⟩
abbrev cX2_wasUsed : ByteArray := prog_4_method_15_code
def yX2_wasUsed : MethodName := ⟨RX2, "wasUsed", "(I)Z"⟩
abbrev cX2_comes : ByteArray := prog_4_method_16_code
def yX2_comes : MethodName := ⟨RX2, "comes", "(I)Z"⟩
abbrev cX2_isOneWed : ByteArray := prog_4_method_17_code
def yX2_isOneWed : MethodName := ⟨RX2, "isOneWed", "()Z"⟩
abbrev cX2_countOfFate : ByteArray := prog_4_method_18_code
def yX2_countOfFate : MethodName := ⟨RX2, "countOfFate", "(I)I"⟩
abbrev cX2_answerHer : ByteArray := prog_4_method_19_code
def yX2_answerHer : MethodName := ⟨RX2, "answerHer", "(II)I"⟩
abbrev cX2_askHer : ByteArray := prog_4_method_20_code
def yX2_askHer : MethodName := ⟨RX2, "askHer", "(II)I"⟩
abbrev cX2_sell : ByteArray := prog_4_method_21_code
def yX2_sell : MethodName := ⟨RX2, "sell", "(II)I"⟩
abbrev cX2_cost : ByteArray := prog_4_method_22_code
def yX2_cost : MethodName := ⟨RX2, "cost", "(I)I"⟩
abbrev cX2_costOfAll : ByteArray := prog_4_method_23_code
def yX2_costOfAll : MethodName := ⟨RX2, "costOfAll", "(I)I"⟩
def RX3 : String := "ThreeRiddles$Foretold"
def TX3 : u_T := fun k => match k with
  | 0 => ("ThreeRiddles$Foretold", "questions", "[I", true)
  | _ => ("ThreeRiddles$Foretold", "having", "[I", true)
def tyX3 : Nat → FieldType := fun k => match k with
  | 0 => .array .int
  | _ => .array .int
theorem nmX3 : ∀ a, a < 2 → ∀ b, b < 2 → a ≠ b → (TX3 a).2.1 ≠ (TX3 b).2.1 := by decide +kernel
theorem tyX3_ok : ∀ k, k < 2 → parseFieldDescriptor (TX3 k).2.2.1 = some (tyX3 k) := by decide +kernel
abbrev cX3_init : ByteArray := prog_5_method_1_code
def yX3_init : MethodName := ⟨RX3, "<init>", "()V"⟩
abbrev cX3_riddleAgainst : ByteArray := prog_5_method_2_code
def yX3_riddleAgainst : MethodName := ⟨RX3, "riddleAgainst", "(LThreeRiddles$Court;III)I"⟩
abbrev cX3_hardest : ByteArray := prog_5_method_3_code
def yX3_hardest : MethodName := ⟨RX3, "hardest", "(LThreeRiddles$Court;II)I"⟩
abbrev cX3_onlyThing : ByteArray := prog_5_method_4_code
def yX3_onlyThing : MethodName := ⟨RX3, "onlyThing", "(LThreeRiddles$Court;II)I"⟩
abbrev cX3_comingWithout : ByteArray := prog_5_method_5_code
def yX3_comingWithout : MethodName := ⟨RX3, "comingWithout", "(LThreeRiddles$Court;I)I"⟩
abbrev cX3_likelihood : ByteArray := prog_5_method_6_code
def yX3_likelihood : MethodName := ⟨RX3, "likelihood", "(LThreeRiddles$Court;II)I"⟩
abbrev cX3_rowsOfUnlike : ByteArray := prog_5_method_7_code
def yX3_rowsOfUnlike : MethodName := ⟨RX3, "rowsOfUnlike", "(II)I"⟩
abbrev cX3_wanted : ByteArray := prog_5_method_8_code
def yX3_wanted : MethodName := ⟨RX3, "wanted", "(LThreeRiddles$Court;I)I"⟩
abbrev cX3_beating : ByteArray := prog_5_method_9_code
def yX3_beating : MethodName := ⟨RX3, "beating", "(LThreeRiddles$Court;)I"⟩
abbrev cX3_fewestQuestions : ByteArray := prog_5_method_10_code
def yX3_fewestQuestions : MethodName := ⟨RX3, "fewestQuestions", "(LThreeRiddles$Court;II)I"⟩
abbrev cX3_areTwoAlike : ByteArray := prog_5_method_11_code
def yX3_areTwoAlike : MethodName := ⟨RX3, "areTwoAlike", "(LThreeRiddles$Court;I)Z"⟩
abbrev cX3_gatherByTraits : ByteArray := prog_5_method_12_code
def yX3_gatherByTraits : MethodName := ⟨RX3, "gatherByTraits", "(LThreeRiddles$Court;)V"⟩
abbrev cX3_fewestOfAll : ByteArray := prog_5_method_13_code
def yX3_fewestOfAll : MethodName := ⟨RX3, "fewestOfAll", "(I)I"⟩
abbrev cX3_firstTrait : ByteArray := prog_5_method_14_code
def yX3_firstTrait : MethodName := ⟨RX3, "firstTrait", "(I)I"⟩
abbrev cX3_splits : ByteArray := prog_5_method_15_code
def yX3_splits : MethodName := ⟨RX3, "splits", "(II)Z"⟩
abbrev cX3_questionsBy : ByteArray := prog_5_method_16_code
def yX3_questionsBy : MethodName := ⟨RX3, "questionsBy", "(II)I"⟩
abbrev cX3_riddlesHeard : ByteArray := prog_5_method_17_code
def yX3_riddlesHeard : MethodName := ⟨RX3, "riddlesHeard", "(LThreeRiddles$Court;I[III)I"⟩
abbrev cX3_riddlesSaid : ByteArray := prog_5_method_18_code
def yX3_riddlesSaid : MethodName := ⟨RX3, "riddlesSaid", "(LThreeRiddles$Court;II)I"⟩
abbrev cX3_timesBefore : ByteArray := prog_5_method_19_code
def yX3_timesBefore : MethodName := ⟨RX3, "timesBefore", "([II)I"⟩
def RX4 : String := "ThreeRiddles$Rows"
def TX4 : u_T := fun k => match k with
  | 0 => ("ThreeRiddles$Rows", "width", "[I", true)
  | 1 => ("ThreeRiddles$Rows", "size", "[I", true)
  | _ => ("ThreeRiddles$Rows", "items", "[I", true)
def tyX4 : Nat → FieldType := fun k => match k with
  | 0 => .array .int
  | 1 => .array .int
  | _ => .array .int
theorem nmX4 : ∀ a, a < 3 → ∀ b, b < 3 → a ≠ b → (TX4 a).2.1 ≠ (TX4 b).2.1 := by decide +kernel
theorem tyX4_ok : ∀ k, k < 3 → parseFieldDescriptor (TX4 k).2.2.1 = some (tyX4 k) := by decide +kernel
abbrev cX4_init : ByteArray := prog_6_method_1_code
def yX4_init : MethodName := ⟨RX4, "<init>", "()V"⟩
abbrev cX4_isMissing : ByteArray := prog_6_method_2_code
def yX4_isMissing : MethodName := ⟨RX4, "isMissing", "(I)Z"⟩
abbrev cX4_areAlike : ByteArray := prog_6_method_3_code
def yX4_areAlike : MethodName := ⟨RX4, "areAlike", "(II)Z"⟩
abbrev cX4_hasPlaces : ByteArray := prog_6_method_4_code
def yX4_hasPlaces : MethodName := ⟨RX4, "hasPlaces", "(III)Z"⟩
abbrev cX4_lay : ByteArray := prog_6_method_5_code
def yX4_lay : MethodName := ⟨RX4, "lay", "(III)V"⟩
abbrev cX4_put : ByteArray := prog_6_method_6_code
def yX4_put : MethodName := ⟨RX4, "put", "(III)I"⟩
abbrev cX4_at : ByteArray := prog_6_method_7_code
def yX4_at : MethodName := ⟨RX4, "at", "(II)I"⟩
abbrev cX4_move : ByteArray := prog_6_method_8_code
def yX4_move : MethodName := ⟨RX4, "move", "(IIIII)V"⟩
abbrev cX4_lose : ByteArray := prog_6_method_9_code
def yX4_lose : MethodName := ⟨RX4, "lose", "(I)I"⟩
abbrev cX4_present : ByteArray := prog_6_method_10_code
def yX4_present : MethodName := ⟨RX4, "present", "()I"⟩
def RX5 : String := "ThreeRiddles$Tape"
def TX5 : u_T := fun k => match k with
  | 0 => ("ThreeRiddles$Tape", "bytes", "[I", true)
  | 1 => ("ThreeRiddles$Tape", "length", "I", false)
  | 2 => ("ThreeRiddles$Tape", "place", "I", false)
  | 3 => ("ThreeRiddles$Tape", "fault", "I", false)
  | _ => ("ThreeRiddles$Tape", "number", "I", false)
def tyX5 : Nat → FieldType := fun k => match k with
  | 0 => .array .int
  | 1 => .int
  | 2 => .int
  | 3 => .int
  | _ => .int
theorem nmX5 : ∀ a, a < 5 → ∀ b, b < 5 → a ≠ b → (TX5 a).2.1 ≠ (TX5 b).2.1 := by decide +kernel
theorem tyX5_ok : ∀ k, k < 5 → parseFieldDescriptor (TX5 k).2.2.1 = some (tyX5 k) := by decide +kernel
abbrev cX5_init : ByteArray := prog_7_method_1_code
def yX5_init : MethodName := ⟨RX5, "<init>", "()V"⟩
abbrev cX5_add : ByteArray := prog_7_method_2_code
def yX5_add : MethodName := ⟨RX5, "add", "(I)I"⟩
abbrev cX5_clear : ByteArray := prog_7_method_3_code
def yX5_clear : MethodName := ⟨RX5, "clear", "()V"⟩
abbrev cX5_tells : ByteArray := prog_7_method_4_code
def yX5_tells : MethodName := ⟨RX5, "tells", "(LThreeRiddles$Court;)Z"⟩
abbrev cX5_tellsLaw : ByteArray := prog_7_method_5_code
def yX5_tellsLaw : MethodName := ⟨RX5, "tellsLaw", "(LThreeRiddles$Court;)Z"⟩
abbrev cX5_tellsThings : ByteArray := prog_7_method_6_code
def yX5_tellsThings : MethodName := ⟨RX5, "tellsThings", "(LThreeRiddles$Court;)Z"⟩
abbrev cX5_tellsRiddles : ByteArray := prog_7_method_7_code
def yX5_tellsRiddles : MethodName := ⟨RX5, "tellsRiddles", "(LThreeRiddles$Court;)Z"⟩
abbrev cX5_tellsRiddle : ByteArray := prog_7_method_8_code
def yX5_tellsRiddle : MethodName := ⟨RX5, "tellsRiddle", "(LThreeRiddles$Court;I)Z"⟩
abbrev cX5_tellsSuitors : ByteArray := prog_7_method_9_code
def yX5_tellsSuitors : MethodName := ⟨RX5, "tellsSuitors", "(LThreeRiddles$Court;)Z"⟩
abbrev cX5_next : ByteArray := prog_7_method_10_code
def yX5_next : MethodName := ⟨RX5, "next", "()I"⟩
abbrev cX5_takes : ByteArray := prog_7_method_11_code
def yX5_takes : MethodName := ⟨RX5, "takes", "(I)Z"⟩
abbrev cX5_takesNumber : ByteArray := prog_7_method_12_code
def yX5_takesNumber : MethodName := ⟨RX5, "takesNumber", "(II)Z"⟩
abbrev cX5_faulty : ByteArray := prog_7_method_13_code
def yX5_faulty : MethodName := ⟨RX5, "faulty", "(I)Z"⟩
def RX6 : String := "ThreeRiddles"
def TX6 : u_T := fun k => match k with
  | 0 => ("ThreeRiddles", "rows", "LThreeRiddles$Rows;", true)
  | 1 => ("ThreeRiddles", "tape", "LThreeRiddles$Tape;", true)
  | 2 => ("ThreeRiddles", "now", "LThreeRiddles$Court;", true)
  | 3 => ("ThreeRiddles", "draft", "LThreeRiddles$Court;", true)
  | 4 => ("ThreeRiddles", "images", "[LThreeRiddles$Court;", true)
  | 5 => ("ThreeRiddles", "acts", "LThreeRiddles$Acts;", true)
  | 6 => ("ThreeRiddles", "foretold", "LThreeRiddles$Foretold;", true)
  | 7 => ("ThreeRiddles", "asks", "LThreeRiddles$Asks;", true)
  | 8 => ("ThreeRiddles", "heard", "[I", true)
  | 9 => ("ThreeRiddles", "latestFault", "I", false)
  | _ => ("ThreeRiddles", "latestFinding", "I", false)
def tyX6 : Nat → FieldType := fun k => match k with
  | 0 => .object "ThreeRiddles$Rows"
  | 1 => .object "ThreeRiddles$Tape"
  | 2 => .object "ThreeRiddles$Court"
  | 3 => .object "ThreeRiddles$Court"
  | 4 => .array (.object "ThreeRiddles$Court")
  | 5 => .object "ThreeRiddles$Acts"
  | 6 => .object "ThreeRiddles$Foretold"
  | 7 => .object "ThreeRiddles$Asks"
  | 8 => .array .int
  | 9 => .int
  | _ => .int
theorem nmX6 : ∀ a, a < 11 → ∀ b, b < 11 → a ≠ b → (TX6 a).2.1 ≠ (TX6 b).2.1 := by decide +kernel
theorem tyX6_ok : ∀ k, k < 11 → parseFieldDescriptor (TX6 k).2.2.1 = some (tyX6 k) := by decide +kernel
abbrev cX6_init : ByteArray := prog_1_method_1_code
def yX6_init : MethodName := ⟨RX6, "<init>", "()V"⟩
abbrev cX6_row : ByteArray := prog_1_method_2_code
def yX6_row : MethodName := ⟨RX6, "row", "(III)I"⟩
abbrev cX6_set : ByteArray := prog_1_method_3_code
def yX6_set : MethodName := ⟨RX6, "set", "(III)I"⟩
abbrev cX6_copy : ByteArray := prog_1_method_4_code
def yX6_copy : MethodName := ⟨RX6, "copy", "(IIIII)I"⟩
abbrev cX6_drop : ByteArray := prog_1_method_5_code
def yX6_drop : MethodName := ⟨RX6, "drop", "(I)I"⟩
abbrev cX6_feed : ByteArray := prog_1_method_6_code
def yX6_feed : MethodName := ⟨RX6, "feed", "(I)I"⟩
abbrev cX6_court : ByteArray := prog_1_method_7_code
def yX6_court : MethodName := ⟨RX6, "court", "()I"⟩
abbrev cX6_fault : ByteArray := prog_1_method_8_code
def yX6_fault : MethodName := ⟨RX6, "fault", "()I"⟩
abbrev cX6_asked : ByteArray := prog_1_method_9_code
def yX6_asked : MethodName := ⟨RX6, "asked", "(II)I"⟩
abbrev cX6_inTurn : ByteArray := prog_1_method_10_code
def yX6_inTurn : MethodName := ⟨RX6, "inTurn", "(II)I"⟩
abbrev cX6_buy : ByteArray := prog_1_method_11_code
def yX6_buy : MethodName := ⟨RX6, "buy", "(II)I"⟩
abbrev cX6_undo : ByteArray := prog_1_method_12_code
def yX6_undo : MethodName := ⟨RX6, "undo", "()I"⟩
abbrev cX6_thing : ByteArray := prog_1_method_13_code
def yX6_thing : MethodName := ⟨RX6, "thing", "(I)I"⟩
abbrev cX6_riddle : ByteArray := prog_1_method_14_code
def yX6_riddle : MethodName := ⟨RX6, "riddle", "(II)I"⟩
abbrev cX6_suitor : ByteArray := prog_1_method_15_code
def yX6_suitor : MethodName := ⟨RX6, "suitor", "(II)I"⟩
abbrev cX6_says : ByteArray := prog_1_method_16_code
def yX6_says : MethodName := ⟨RX6, "says", "(II)I"⟩
abbrev cX6_riddleFor : ByteArray := prog_1_method_17_code
def yX6_riddleFor : MethodName := ⟨RX6, "riddleFor", "(III)I"⟩
abbrev cX6_hard : ByteArray := prog_1_method_18_code
def yX6_hard : MethodName := ⟨RX6, "hard", "(II)I"⟩
abbrev cX6_chance : ByteArray := prog_1_method_19_code
def yX6_chance : MethodName := ⟨RX6, "chance", "(II)I"⟩
abbrev cX6_toBuy : ByteArray := prog_1_method_20_code
def yX6_toBuy : MethodName := ⟨RX6, "toBuy", "(II)I"⟩
abbrev cX6_beats : ByteArray := prog_1_method_21_code
def yX6_beats : MethodName := ⟨RX6, "beats", "()I"⟩
abbrev cX6_tree : ByteArray := prog_1_method_22_code
def yX6_tree : MethodName := ⟨RX6, "tree", "(II)I"⟩
abbrev cX6_said : ByteArray := prog_1_method_23_code
def yX6_said : MethodName := ⟨RX6, "said", "(IIIII)I"⟩
abbrev cX6_image : ByteArray := prog_1_method_24_code
def yX6_image : MethodName := ⟨RX6, "image", "(I)I"⟩
abbrev cX6_restore : ByteArray := prog_1_method_25_code
def yX6_restore : MethodName := ⟨RX6, "restore", "(I)I"⟩
abbrev cX6_kind : ByteArray := prog_1_method_26_code
def yX6_kind : MethodName := ⟨RX6, "kind", "(I)I"⟩
abbrev cX6_as : ByteArray := prog_1_method_27_code
def yX6_as : MethodName := ⟨RX6, "as", "(II)I"⟩
abbrev cX6_ask : ByteArray := prog_1_method_28_code
def yX6_ask : MethodName := ⟨RX6, "ask", "(II)I"⟩
abbrev cX6_trace : ByteArray := prog_1_method_29_code
def yX6_trace : MethodName := ⟨RX6, "trace", "(I)I"⟩
abbrev cX6_count : ByteArray := prog_1_method_30_code
def yX6_count : MethodName := ⟨RX6, "count", "(I)I"⟩
abbrev cX6_status : ByteArray := prog_1_method_31_code
def yX6_status : MethodName := ⟨RX6, "status", "()I"⟩
abbrev cX6_below : ByteArray := prog_1_method_32_code
def yX6_below : MethodName := ⟨RX6, "below", "(II)Z"⟩
abbrev cX6_found : ByteArray := prog_1_method_33_code
def yX6_found : MethodName := ⟨RX6, "found", "(I)I"⟩
abbrev cX6_clean : ByteArray := prog_1_method_34_code
def yX6_clean : MethodName := ⟨RX6, "clean", "(I)I"⟩
def RX7 : String := "ThreeRiddlesModel"
def TX7 : u_T := fun k => match k with
  | 0 => ("ThreeRiddlesModel", "lane", "[I", true)
  | 1 => ("ThreeRiddlesModel", "size", "[I", true)
  | 2 => ("ThreeRiddlesModel", "items", "[I", true)
  | 3 => ("ThreeRiddlesModel", "status", "I", false)
  | 4 => ("ThreeRiddlesModel", "letters", "I", false)
  | 5 => ("ThreeRiddlesModel", "tape", "[I", true)
  | 6 => ("ThreeRiddlesModel", "position", "I", false)
  | 7 => ("ThreeRiddlesModel", "tokenAt", "I", false)
  | 8 => ("ThreeRiddlesModel", "token", "I", false)
  | 9 => ("ThreeRiddlesModel", "number", "I", false)
  | 10 => ("ThreeRiddlesModel", "faultIs", "I", false)
  | 11 => ("ThreeRiddlesModel", "faultNow", "I", false)
  | 12 => ("ThreeRiddlesModel", "now", "[I", true)
  | 13 => ("ThreeRiddlesModel", "read", "[I", true)
  | 14 => ("ThreeRiddlesModel", "image", "[I", true)
  | 15 => ("ThreeRiddlesModel", "isKept", "[Z", true)
  | 16 => ("ThreeRiddlesModel", "actOf", "[I", true)
  | 17 => ("ThreeRiddlesModel", "acts", "I", false)
  | 18 => ("ThreeRiddlesModel", "trace", "[I", true)
  | 19 => ("ThreeRiddlesModel", "traceMany", "I", false)
  | _ => ("ThreeRiddlesModel", "deep", "[I", true)
def tyX7 : Nat → FieldType := fun k => match k with
  | 0 => .array .int
  | 1 => .array .int
  | 2 => .array .int
  | 3 => .int
  | 4 => .int
  | 5 => .array .int
  | 6 => .int
  | 7 => .int
  | 8 => .int
  | 9 => .int
  | 10 => .int
  | 11 => .int
  | 12 => .array .int
  | 13 => .array .int
  | 14 => .array .int
  | 15 => .array .boolean
  | 16 => .array .int
  | 17 => .int
  | 18 => .array .int
  | 19 => .int
  | _ => .array .int
theorem nmX7 : ∀ a, a < 21 → ∀ b, b < 21 → a ≠ b → (TX7 a).2.1 ≠ (TX7 b).2.1 := by decide +kernel
theorem tyX7_ok : ∀ k, k < 21 → parseFieldDescriptor (TX7 k).2.2.1 = some (tyX7 k) := by decide +kernel
abbrev cX7_init : ByteArray := prog_9_method_1_code
def yX7_init : MethodName := ⟨RX7, "<init>", "()V"⟩
abbrev cX7_in : ByteArray := prog_9_method_2_code
def yX7_in : MethodName := ⟨RX7, "in", "(III)Z"⟩
abbrev cX7_has : ByteArray := prog_9_method_3_code
def yX7_has : MethodName := ⟨RX7, "has", "(II)Z"⟩
abbrev cX7_bits : ByteArray := prog_9_method_4_code
def yX7_bits : MethodName := ⟨RX7, "bits", "(I)I"⟩
abbrev cX7_finds : ByteArray := prog_9_method_5_code
def yX7_finds : MethodName := ⟨RX7, "finds", "(I)I"⟩
abbrev cX7_done : ByteArray := prog_9_method_6_code
def yX7_done : MethodName := ⟨RX7, "done", "(I)I"⟩
abbrev cX7_isRow : ByteArray := prog_9_method_7_code
def yX7_isRow : MethodName := ⟨RX7, "isRow", "(I)Z"⟩
abbrev cX7_row : ByteArray := prog_9_method_8_code
def yX7_row : MethodName := ⟨RX7, "row", "(III)I"⟩
abbrev cX7_set : ByteArray := prog_9_method_9_code
def yX7_set : MethodName := ⟨RX7, "set", "(III)I"⟩
abbrev cX7_isPart : ByteArray := prog_9_method_10_code
def yX7_isPart : MethodName := ⟨RX7, "isPart", "(III)Z"⟩
abbrev cX7_copy : ByteArray := prog_9_method_11_code
def yX7_copy : MethodName := ⟨RX7, "copy", "(IIIII)I"⟩
abbrev cX7_drop : ByteArray := prog_9_method_12_code
def yX7_drop : MethodName := ⟨RX7, "drop", "(I)I"⟩
abbrev cX7_feed : ByteArray := prog_9_method_13_code
def yX7_feed : MethodName := ⟨RX7, "feed", "(I)I"⟩
abbrev cX7_nextToken : ByteArray := prog_9_method_14_code
def yX7_nextToken : MethodName := ⟨RX7, "nextToken", "()V"⟩
abbrev cX7_fails : ByteArray := prog_9_method_15_code
def yX7_fails : MethodName := ⟨RX7, "fails", "(I)Z"⟩
abbrev cX7_isNumber : ByteArray := prog_9_method_16_code
def yX7_isNumber : MethodName := ⟨RX7, "isNumber", "(I)Z"⟩
abbrev cX7_isSign : ByteArray := prog_9_method_17_code
def yX7_isSign : MethodName := ⟨RX7, "isSign", "(I)Z"⟩
abbrev cX7_sortOf : ByteArray := prog_9_method_18_code
def yX7_sortOf : MethodName := ⟨RX7, "sortOf", "(I)I"⟩
abbrev cX7_isLaw : ByteArray := prog_9_method_19_code
def yX7_isLaw : MethodName := ⟨RX7, "isLaw", "()Z"⟩
abbrev cX7_isThing : ByteArray := prog_9_method_20_code
def yX7_isThing : MethodName := ⟨RX7, "isThing", "()Z"⟩
abbrev cX7_isRiddle : ByteArray := prog_9_method_21_code
def yX7_isRiddle : MethodName := ⟨RX7, "isRiddle", "()Z"⟩
abbrev cX7_isSuitor : ByteArray := prog_9_method_22_code
def yX7_isSuitor : MethodName := ⟨RX7, "isSuitor", "()Z"⟩
abbrev cX7_isRead : ByteArray := prog_9_method_23_code
def yX7_isRead : MethodName := ⟨RX7, "isRead", "()Z"⟩
abbrev cX7_court : ByteArray := prog_9_method_24_code
def yX7_court : MethodName := ⟨RX7, "court", "()I"⟩
abbrev cX7_fault : ByteArray := prog_9_method_25_code
def yX7_fault : MethodName := ⟨RX7, "fault", "()I"⟩
abbrev cX7_lay : ByteArray := prog_9_method_26_code
def yX7_lay : MethodName := ⟨RX7, "lay", "([II[II)V"⟩
abbrev cX7_isCourt : ByteArray := prog_9_method_27_code
def yX7_isCourt : MethodName := ⟨RX7, "isCourt", "()Z"⟩
abbrev cX7_everything : ByteArray := prog_9_method_28_code
def yX7_everything : MethodName := ⟨RX7, "everything", "()I"⟩
abbrev cX7_isThingAt : ByteArray := prog_9_method_29_code
def yX7_isThingAt : MethodName := ⟨RX7, "isThingAt", "(I)Z"⟩
abbrev cX7_isRiddleAt : ByteArray := prog_9_method_30_code
def yX7_isRiddleAt : MethodName := ⟨RX7, "isRiddleAt", "(I)Z"⟩
abbrev cX7_isSuitorAt : ByteArray := prog_9_method_31_code
def yX7_isSuitorAt : MethodName := ⟨RX7, "isSuitorAt", "(I)Z"⟩
abbrev cX7_fits : ByteArray := prog_9_method_32_code
def yX7_fits : MethodName := ⟨RX7, "fits", "(IIII)Z"⟩
abbrev cX7_fittersOf : ByteArray := prog_9_method_33_code
def yX7_fittersOf : MethodName := ⟨RX7, "fittersOf", "(III)I"⟩
abbrev cX7_fittersAt : ByteArray := prog_9_method_34_code
def yX7_fittersAt : MethodName := ⟨RX7, "fittersAt", "(I)I"⟩
abbrev cX7_leastOf : ByteArray := prog_9_method_35_code
def yX7_leastOf : MethodName := ⟨RX7, "leastOf", "(I)I"⟩
abbrev cX7_answerAt : ByteArray := prog_9_method_36_code
def yX7_answerAt : MethodName := ⟨RX7, "answerAt", "(I)I"⟩
abbrev cX7_saysAt : ByteArray := prog_9_method_37_code
def yX7_saysAt : MethodName := ⟨RX7, "saysAt", "(II)I"⟩
abbrev cX7_sheSaysAt : ByteArray := prog_9_method_38_code
def yX7_sheSaysAt : MethodName := ⟨RX7, "sheSaysAt", "(I)I"⟩
abbrev cX7_isOpen : ByteArray := prog_9_method_39_code
def yX7_isOpen : MethodName := ⟨RX7, "isOpen", "(I)Z"⟩
abbrev cX7_isAnyWed : ByteArray := prog_9_method_40_code
def yX7_isAnyWed : MethodName := ⟨RX7, "isAnyWed", "()Z"⟩
abbrev cX7_act : ByteArray := prog_9_method_41_code
def yX7_act : MethodName := ⟨RX7, "act", "()V"⟩
abbrev cX7_asked : ByteArray := prog_9_method_42_code
def yX7_asked : MethodName := ⟨RX7, "asked", "(II)I"⟩
abbrev cX7_inTurn : ByteArray := prog_9_method_43_code
def yX7_inTurn : MethodName := ⟨RX7, "inTurn", "(II)I"⟩
abbrev cX7_costOf : ByteArray := prog_9_method_44_code
def yX7_costOf : MethodName := ⟨RX7, "costOf", "(I)I"⟩
abbrev cX7_buy : ByteArray := prog_9_method_45_code
def yX7_buy : MethodName := ⟨RX7, "buy", "(II)I"⟩
abbrev cX7_undo : ByteArray := prog_9_method_46_code
def yX7_undo : MethodName := ⟨RX7, "undo", "()I"⟩
abbrev cX7_thing : ByteArray := prog_9_method_47_code
def yX7_thing : MethodName := ⟨RX7, "thing", "(I)I"⟩
abbrev cX7_riddle : ByteArray := prog_9_method_48_code
def yX7_riddle : MethodName := ⟨RX7, "riddle", "(II)I"⟩
abbrev cX7_suitor : ByteArray := prog_9_method_49_code
def yX7_suitor : MethodName := ⟨RX7, "suitor", "(II)I"⟩
abbrev cX7_says : ByteArray := prog_9_method_50_code
def yX7_says : MethodName := ⟨RX7, "says", "(II)I"⟩
abbrev cX7_riddleFor : ByteArray := prog_9_method_51_code
def yX7_riddleFor : MethodName := ⟨RX7, "riddleFor", "(III)I"⟩
abbrev cX7_hard : ByteArray := prog_9_method_52_code
def yX7_hard : MethodName := ⟨RX7, "hard", "(II)I"⟩
abbrev cX7_over : ByteArray := prog_9_method_53_code
def yX7_over : MethodName := ⟨RX7, "over", "(II)I"⟩
abbrev cX7_chance : ByteArray := prog_9_method_54_code
def yX7_chance : MethodName := ⟨RX7, "chance", "(II)I"⟩
abbrev cX7_toBuy : ByteArray := prog_9_method_55_code
def yX7_toBuy : MethodName := ⟨RX7, "toBuy", "(II)I"⟩
abbrev cX7_beats : ByteArray := prog_9_method_56_code
def yX7_beats : MethodName := ⟨RX7, "beats", "()I"⟩
abbrev cX7_havers : ByteArray := prog_9_method_57_code
def yX7_havers : MethodName := ⟨RX7, "havers", "(II)I"⟩
abbrev cX7_deepBy : ByteArray := prog_9_method_58_code
def yX7_deepBy : MethodName := ⟨RX7, "deepBy", "(II)I"⟩
abbrev cX7_tree : ByteArray := prog_9_method_59_code
def yX7_tree : MethodName := ⟨RX7, "tree", "(II)I"⟩
abbrev cX7_said : ByteArray := prog_9_method_60_code
def yX7_said : MethodName := ⟨RX7, "said", "(IIIII)I"⟩
abbrev cX7_image : ByteArray := prog_9_method_61_code
def yX7_image : MethodName := ⟨RX7, "image", "(I)I"⟩
abbrev cX7_restore : ByteArray := prog_9_method_62_code
def yX7_restore : MethodName := ⟨RX7, "restore", "(I)I"⟩
abbrev cX7_kindAt : ByteArray := prog_9_method_63_code
def yX7_kindAt : MethodName := ⟨RX7, "kindAt", "(I)I"⟩
abbrev cX7_kind : ByteArray := prog_9_method_64_code
def yX7_kind : MethodName := ⟨RX7, "kind", "(I)I"⟩
abbrev cX7_parentOf : ByteArray := prog_9_method_65_code
def yX7_parentOf : MethodName := ⟨RX7, "parentOf", "(I)I"⟩
abbrev cX7_as : ByteArray := prog_9_method_66_code
def yX7_as : MethodName := ⟨RX7, "as", "(II)I"⟩
abbrev cX7_begins : ByteArray := prog_9_method_67_code
def yX7_begins : MethodName := ⟨RX7, "begins", "(I)V"⟩
abbrev cX7_markPlain : ByteArray := prog_9_method_68_code
def yX7_markPlain : MethodName := ⟨RX7, "markPlain", "(I)I"⟩
abbrev cX7_markByKind : ByteArray := prog_9_method_69_code
def yX7_markByKind : MethodName := ⟨RX7, "markByKind", "(I)I"⟩
abbrev cX7_sizeLying : ByteArray := prog_9_method_70_code
def yX7_sizeLying : MethodName := ⟨RX7, "sizeLying", "(I)I"⟩
abbrev cX7_sizeOf : ByteArray := prog_9_method_71_code
def yX7_sizeOf : MethodName := ⟨RX7, "sizeOf", "(I)I"⟩
abbrev cX7_markOf : ByteArray := prog_9_method_72_code
def yX7_markOf : MethodName := ⟨RX7, "markOf", "(I)I"⟩
abbrev cX7_ask : ByteArray := prog_9_method_73_code
def yX7_ask : MethodName := ⟨RX7, "ask", "(II)I"⟩
abbrev cX7_trace : ByteArray := prog_9_method_74_code
def yX7_trace : MethodName := ⟨RX7, "trace", "(I)I"⟩
abbrev cX7_count : ByteArray := prog_9_method_75_code
def yX7_count : MethodName := ⟨RX7, "count", "(I)I"⟩
abbrev cX7_status : ByteArray := prog_9_method_76_code
def yX7_status : MethodName := ⟨RX7, "status", "()I"⟩
def RJ6 : String := "java/lang/Integer"
def TJ6 : u_T := fun k => match k with
  | _ => ("", "", "", false)
def tyJ6 : Nat → FieldType := fun k => match k with
  | _ => .int
theorem nmJ6 : ∀ a, a < 0 → ∀ b, b < 0 → a ≠ b → (TJ6 a).2.1 ≠ (TJ6 b).2.1 := by decide +kernel
theorem tyJ6_ok : ∀ k, k < 0 → parseFieldDescriptor (TJ6 k).2.2.1 = some (tyJ6 k) := by decide +kernel
abbrev cJ6_bitCount_0f7a4 : ByteArray := prog_10_method_49_code
def yJ6_bitCount_0f7a4 : MethodName := ⟨RJ6, "bitCount", "(I)I"⟩
def RJ9 : String := "java/lang/Math"
def TJ9 : u_T := fun k => match k with
  | _ => ("", "", "", false)
def tyJ9 : Nat → FieldType := fun k => match k with
  | _ => .int
theorem nmJ9 : ∀ a, a < 0 → ∀ b, b < 0 → a ≠ b → (TJ9 a).2.1 ≠ (TJ9 b).2.1 := by decide +kernel
theorem tyJ9_ok : ∀ k, k < 0 → parseFieldDescriptor (TJ9 k).2.2.1 = some (tyJ9 k) := by decide +kernel
abbrev cJ9_max_7cf53 : ByteArray := prog_11_method_65_code
def yJ9_max_7cf53 : MethodName := ⟨RJ9, "max", "(II)I"⟩
abbrev cJ9_min_7cf53 : ByteArray := prog_11_method_69_code
def yJ9_min_7cf53 : MethodName := ⟨RJ9, "min", "(II)I"⟩
def RJ10 : String := "java/lang/System"
def TJ10 : u_T := fun k => match k with
  | _ => ("", "", "", false)
def tyJ10 : Nat → FieldType := fun k => match k with
  | _ => .int
theorem nmJ10 : ∀ a, a < 0 → ∀ b, b < 0 → a ≠ b → (TJ10 a).2.1 ≠ (TJ10 b).2.1 := by decide +kernel
theorem tyJ10_ok : ∀ k, k < 0 → parseFieldDescriptor (TJ10 k).2.2.1 = some (tyJ10 k) := by decide +kernel
def RJ7 : String := "java/util/Arrays"
def TJ7 : u_T := fun k => match k with
  | _ => ("", "", "", false)
def tyJ7 : Nat → FieldType := fun k => match k with
  | _ => .int
theorem nmJ7 : ∀ a, a < 0 → ∀ b, b < 0 → a ≠ b → (TJ7 a).2.1 ≠ (TJ7 b).2.1 := by decide +kernel
theorem tyJ7_ok : ∀ k, k < 0 → parseFieldDescriptor (TJ7 k).2.2.1 = some (tyJ7 k) := by decide +kernel
abbrev cJ7_rangeCheck_23922 : ByteArray := prog_13_method_30_code
def yJ7_rangeCheck_23922 : MethodName := ⟨RJ7, "rangeCheck", "(III)V"⟩
abbrev cJ7_fill_53178 : ByteArray := prog_13_method_103_code
def yJ7_fill_53178 : MethodName := ⟨RJ7, "fill", "([II)V"⟩
abbrev cJ7_fill_fda19 : ByteArray := prog_13_method_104_code
def yJ7_fill_fda19 : MethodName := ⟨RJ7, "fill", "([IIII)V"⟩
def RL : String := "ThreeRiddlesLaw"
abbrev cL_law : ByteArray := code
def yL_law : MethodName := ⟨RL, "law", "([I)Z"⟩
abbrev vwCl : List vw_C := [(RX0, TX0, 8), (RX1, TX1, 2), (RX2, TX2, 17), (RX3, TX3, 2), (RX4, TX4, 3), (RX5, TX5, 5), (RX6, TX6, 11), (RX7, TX7, 21)]
/-- the tables' words that a call takes along -/
def TW : List Cond := lw_tbl.filter goodWord
theorem tw_of {ws : List Cond} (h : GoodIn lw_tbl ws) (hg : ws.all goodWord = true) : ∀ w ∈ ws, w ∈ TW := fun w hw => List.mem_filter.mpr ⟨(h w hw).1, List.all_eq_true.mp hg w hw⟩
theorem tw {w : Cond} (i : Nat) (h : lw_tbl[i]? = some w) (hg : goodWord w = true) : w ∈ TW := List.mem_filter.mpr ⟨List.mem_of_getElem? h, hg⟩
theorem inX0 : ∀ w ∈ u_ws RX0 TX0 8, w ∈ TW := fun w h => tw_of (goodIn_r _ [236, 238, 240, 242, 244, 246, 248, 250] (by decide +kernel) (by decide +kernel)) (by decide +kernel) w h
theorem inX1 : ∀ w ∈ u_ws RX1 TX1 2, w ∈ TW := fun w h => tw_of (goodIn_r _ [274, 276] (by decide +kernel) (by decide +kernel)) (by decide +kernel) w h
theorem inX2 : ∀ w ∈ u_ws RX2 TX2 17, w ∈ TW := fun w h => tw_of (goodIn_r _ [185, 187, 189, 191, 193, 195, 197, 199, 201, 203, 205, 207, 209, 211, 213, 215, 217] (by decide +kernel) (by decide +kernel)) (by decide +kernel) w h
theorem inX3 : ∀ w ∈ u_ws RX3 TX3 2, w ∈ TW := fun w h => tw_of (goodIn_r _ [261, 263] (by decide +kernel) (by decide +kernel)) (by decide +kernel) w h
theorem inX4 : ∀ w ∈ u_ws RX4 TX4 3, w ∈ TW := fun w h => tw_of (goodIn_r _ [87, 89, 91] (by decide +kernel) (by decide +kernel)) (by decide +kernel) w h
theorem inX5 : ∀ w ∈ u_ws RX5 TX5 5, w ∈ TW := fun w h => tw_of (goodIn_r _ [109, 111, 113, 115, 117] (by decide +kernel) (by decide +kernel)) (by decide +kernel) w h
theorem inX6 : ∀ w ∈ u_ws RX6 TX6 11, w ∈ TW := fun w h => tw_of (goodIn_r _ [290, 292, 294, 296, 298, 300, 302, 304, 306, 308, 310] (by decide +kernel) (by decide +kernel)) (by decide +kernel) w h
theorem inX7 : ∀ w ∈ u_ws RX7 TX7 21, w ∈ TW := fun w h => tw_of (goodIn_r _ [804, 806, 808, 810, 812, 814, 816, 818, 820, 822, 824, 826, 828, 830, 832, 834, 836, 838, 840, 842, 844] (by decide +kernel) (by decide +kernel)) (by decide +kernel) w h
end
section
/-! ===== the abstract machine: a fixed world of 73 cells, its numbers in one memory g; what a stretch of bytecode answers is a function F ===== -/
abbrev Mem : Type := Nat → Nat → Int32
abbrev AV : Type := Int32 ⊕ Nat
abbrev MT : Type := MethodName × ByteArray × Nat × Option FieldType × Nat × Nat
abbrev SH : Type := Nat × Nat × List (Option Nat)
def cv (ad : Nat → Nat) (v : AV) : Value := match v with
  | .inl x => .int x
  | .inr k => .ref (ad k)
theorem cv_cat (ad : Nat → Nat) (v : AV) : (cv ad v).category = 1 := by cases v <;> rfl
theorem cat_sum (ad : Nat → Nat) (st : List AV) : ((st.map (cv ad)).map fun v => v.category).sum = st.length := by
  induction st with
  | nil => rfl
  | cons a t ih =>
    show (cv ad a).category + ((t.map (cv ad)).map fun v => v.category).sum = t.length + 1
    rw [ih, cv_cat]; omega
def upR (g : Mem) (k : Nat) (f : Nat → Int32) : Mem := fun a => if a = k then f else g a
def up (g : Mem) (k i : Nat) (v : Int32) : Mem := upR g k (upd (g k) i v)
def cpy (g : Mem) (a sp b dp n : Nat) : Mem := upR g b (va_cpy (g a) (g b) sp dp n)
def ushr (x y : Int32) : Int32 := (x.toUInt32 >>> (y.toUInt32 &&& Int32.toUInt32 31)).toInt32
def irm (x y : Int32) : Int32 := x - x / y * y
def mx (x y : Int32) : Int32 := if x < y then y else x
def mn (x y : Int32) : Int32 := if y < x then y else x
/-! the words of the functions -/
def lt (e : Int32) (G : Int32 → Option (Int32 × Mem)) : Option (Int32 × Mem) := G e
def nz (y : Int32) (F : Option (Int32 × Mem)) : Option (Int32 × Mem) := if y = 0 then none else F
def rz (x : Int32) (g : Mem) : Option (Int32 × Mem) := if x = 0 ∨ x = 1 then some (x, g) else none
def pf (g : Mem) (k i : Nat) (x : Int32) (G : Mem → Option (Int32 × Mem)) : Option (Int32 × Mem) := G (up g k i x)
def pz (g : Mem) (k i : Nat) (x : Int32) (G : Mem → Option (Int32 × Mem)) : Option (Int32 × Mem) := if x = 0 ∨ x = 1 then G (up g k i x) else none
def al (g : Mem) (a n : Nat) (x : Int32) (G : Int32 → Option (Int32 × Mem)) : Option (Int32 × Mem) := if x < 0 ∨ n ≤ x.toNatClampNeg then none else G (g a x.toNatClampNeg)
def as_ (g : Mem) (a n : Nat) (x v : Int32) (G : Mem → Option (Int32 × Mem)) : Option (Int32 × Mem) := if x < 0 ∨ n ≤ x.toNatClampNeg then none else G (up g a x.toNatClampNeg v)
def sl (f : Nat → Int32) (n : Nat) (x : Int32) (G : Int32 → Option (Int32 × Mem)) : Option (Int32 × Mem) := if x < 0 ∨ n ≤ x.toNatClampNeg then none else G (f x.toNatClampNeg)
def r2 (x : Int32) (F1 F2 : Option (Int32 × Mem)) : Option (Int32 × Mem) := if x = 0 then F1 else if x = 1 then F2 else none
def cl (o : Option (Int32 × Mem)) (K : Int32 → Mem → Option (Int32 × Mem)) : Option (Int32 × Mem) := match o with
  | none => none
  | some (r, g) => K r g
def ac (g : Mem) (a n0 : Nat) (sp : Int32) (b n1 : Nat) (dp n : Int32) (G : Mem → Option (Int32 × Mem)) : Option (Int32 × Mem) :=
  if ¬ sp < 0 ∧ ¬ dp < 0 ∧ ¬ n < 0 ∧ sp.toNatClampNeg + n.toNatClampNeg ≤ n0 ∧ dp.toNatClampNeg + n.toNatClampNeg ≤ n1 then G (cpy g a sp.toNatClampNeg b dp.toNatClampNeg n.toNatClampNeg) else none
theorem nz_some {y : Int32} {F o : Option (Int32 × Mem)} (h : nz y F = o) (ho : o.isSome = true := by rfl) : ¬ y = 0 ∧ F = o := by
  unfold nz at h
  by_cases hy : y = 0
  · rw [if_pos hy] at h; subst h; cases ho
  · rw [if_neg hy] at h; exact ⟨hy, h⟩
theorem rz_some {x : Int32} {g : Mem} {q : Int32 × Mem} (h : rz x g = some q) : (x = 0 ∨ x = 1) ∧ some (x, g) = some q := by
  unfold rz at h
  by_cases hy : x = 0 ∨ x = 1
  · rw [if_pos hy] at h; exact ⟨hy, h⟩
  · rw [if_neg hy] at h; cases h
theorem rz_some' {g : Mem} {k i : Nat} {x : Int32} {G : Mem → Option (Int32 × Mem)} {q : Int32 × Mem} (h : pz g k i x G = some q) : (x = 0 ∨ x = 1) ∧ G (up g k i x) = some q := by
  unfold pz at h
  by_cases hy : x = 0 ∨ x = 1
  · rw [if_pos hy] at h; exact ⟨hy, h⟩
  · rw [if_neg hy] at h; cases h
theorem al_some {g : Mem} {a n : Nat} {x : Int32} {G : Int32 → Option (Int32 × Mem)} {q : Int32 × Mem} (h : al g a n x G = some q) : vp_in x n ∧ G (g a x.toNatClampNeg) = some q := by
  unfold al at h
  by_cases hy : x < 0 ∨ n ≤ x.toNatClampNeg
  · rw [if_pos hy] at h; cases h
  · rw [if_neg hy] at h; exact ⟨hy, h⟩
theorem as_some {g : Mem} {a n : Nat} {x v : Int32} {G : Mem → Option (Int32 × Mem)} {q : Int32 × Mem} (h : as_ g a n x v G = some q) : vp_in x n ∧ G (up g a x.toNatClampNeg v) = some q := by
  unfold as_ at h
  by_cases hy : x < 0 ∨ n ≤ x.toNatClampNeg
  · rw [if_pos hy] at h; cases h
  · rw [if_neg hy] at h; exact ⟨hy, h⟩
theorem sl_some {f : Nat → Int32} {n : Nat} {x : Int32} {G : Int32 → Option (Int32 × Mem)} {q : Int32 × Mem} (h : sl f n x G = some q) : vp_in x n ∧ G (f x.toNatClampNeg) = some q := by
  unfold sl at h
  by_cases hy : x < 0 ∨ n ≤ x.toNatClampNeg
  · rw [if_pos hy] at h; cases h
  · rw [if_neg hy] at h; exact ⟨hy, h⟩
theorem r2_some {x : Int32} {F1 F2 : Option (Int32 × Mem)} {q : Int32 × Mem} (h : r2 x F1 F2 = some q) : (x = 0 ∧ F1 = some q) ∨ (x = 1 ∧ F2 = some q) := by
  unfold r2 at h
  by_cases h0 : x = 0
  · rw [if_pos h0] at h; exact Or.inl ⟨h0, h⟩
  · rw [if_neg h0] at h
    by_cases h1 : x = 1
    · rw [if_pos h1] at h; exact Or.inr ⟨h1, h⟩
    · rw [if_neg h1] at h; cases h
theorem cl_some {o : Option (Int32 × Mem)} {K : Int32 → Mem → Option (Int32 × Mem)} {q : Int32 × Mem} (h : cl o K = some q) : ∃ r g, o = some (r, g) ∧ K r g = some q := by
  cases o with
  | none => cases h
  | some z => exact ⟨z.1, z.2, rfl, h⟩
theorem ac_some {g : Mem} {a n0 b n1 : Nat} {sp dp n : Int32} {G : Mem → Option (Int32 × Mem)} {q : Int32 × Mem} (h : ac g a n0 sp b n1 dp n G = some q) :
    (¬ sp < 0 ∧ ¬ dp < 0 ∧ ¬ n < 0 ∧ sp.toNatClampNeg + n.toNatClampNeg ≤ n0 ∧ dp.toNatClampNeg + n.toNatClampNeg ≤ n1) ∧ G (cpy g a sp.toNatClampNeg b dp.toNatClampNeg n.toNatClampNeg) = some q := by
  unfold ac at h
  by_cases hy : ¬ sp < 0 ∧ ¬ dp < 0 ∧ ¬ n < 0 ∧ sp.toNatClampNeg + n.toNatClampNeg ≤ n0 ∧ dp.toNatClampNeg + n.toNatClampNeg ≤ n1
  · rw [if_pos hy] at h; exact ⟨hy, h⟩
  · rw [if_neg hy] at h; cases h
/-! the shape of the world -/
def shCourt (b : Nat) : SH := (0, 2, [none, none, none, none, some (b + 1), none, some (b + 2), some (b + 3), some (b + 4), some (b + 5), none, some (b + 6), some (b + 7), some (b + 8), some (b + 9), none, none])
def shInts (n : Nat) : SH := (1, n, [])
def shC (b : Nat) : List SH := [shCourt b, shInts 8, shInts 6, shInts 6, shInts 6, shInts 6, shInts 4, shInts 4, shInts 4, shInts 4]
def shL : List SH :=
  [(0, 6, [some 1, some 5, some 7, some 17, some 27, some 48, some 55, some 58, some 60, none, none]),
   (0, 4, [some 2, some 3, some 4]), shInts 8, shInts 8, shInts 320,
   (0, 5, [some 6, none, none, none, none]), shInts 120] ++ shC 7 ++ shC 17 ++ [(3, 2, [some 28, some 38])] ++ shC 28 ++ shC 38 ++
  [(0, 0, [some 49, some 50, some 51, some 52, some 53, some 54, none, none]), shInts 24, shInts 24, shInts 24, shInts 24, shInts 24, shInts 24,
   (0, 3, [some 56, some 57]), shInts 256, shInts 5, (0, 1, [some 59, none]), shInts 16, shInts 6] ++
  [(0, 7, [some 62, some 63, some 64, none, none, some 65, none, none, none, none, none, none, some 66, some 67, some 68, some 69, some 70, none, some 71, none, some 72]), shInts 8, shInts 8, shInts 320, shInts 120, shInts 50, shInts 50, shInts 100, (2, 2, []), shInts 1200, shInts 16, shInts 256]
def sh (k : Nat) : SH := (shL[k]?).getD (9, 0, [])
def CE (ad : Nat → Nat) (cs : Nat → ClassId) (f : Nat → Int32) (s : SH) : va_E :=
  if s.1 = 0 then .inr (s.2.1, s.2.2.mapIdx (fun i o => match o with | some j => Value.ref (ad j) | none => Value.int (f i)))
  else if s.1 = 1 then .inl (cs 0, s.2.1, .inl f)
  else if s.1 = 2 then .inl (cs 1, s.2.1, .inl f)
  else .inl (cs 2, s.2.1, .inr (.inr (.inr (.inr (fun i => ((s.2.2[i]?).getD none).map ad)))))
abbrev TY (cs : Nat → ClassId) : List (ClassId × FieldType) := [(cs 0, .int), (cs 1, .boolean), (cs 2, .object "ThreeRiddles$Court")]
def WS (ad : Nat → Nat) (cs : Nat → ClassId) (g : Mem) : va_W := (List.range 73).map (fun k => (ad k, CE ad cs (g k) (sh k)))
def AD (A : Nat → Prop) (ad : Nat → Nat) : Prop := (∀ i j : Nat, i < 73 → j < 73 → ad i = ad j → i = j) ∧ ∀ k : Nat, k < 73 → A (ad k)
theorem WS_get {ad : Nat → Nat} {cs : Nat → ClassId} {g : Mem} {k : Nat} (h : k < 73) : (WS ad cs g)[k]? = some (ad k, CE ad cs (g k) (sh k)) := by
  unfold WS
  rw [List.getElem?_map, List.getElem?_range h]; rfl
theorem WS_inv {ad : Nat → Nat} {cs : Nat → ClassId} {g : Mem} {k : Nat} {q : Nat × va_E} (h : (WS ad cs g)[k]? = some q) : k < 73 ∧ q = (ad k, CE ad cs (g k) (sh k)) := by
  by_cases hk : k < 73
  · rw [WS_get hk] at h; exact ⟨hk, (Option.some.inj h).symm⟩
  · unfold WS at h
    rw [List.getElem?_eq_none (by simp; omega)] at h; cases h
theorem AD_D {A : Nat → Prop} {ad : Nat → Nat} (h : AD A ad) {cs : Nat → ClassId} {g : Mem} : va_D A (WS ad cs g) := by
  refine ⟨fun i j p q hp hq e => ?_, fun k q hq => ?_⟩
  · obtain ⟨hi, rfl⟩ := WS_inv hp
    obtain ⟨hj, rfl⟩ := WS_inv hq
    exact h.1 i j hi hj e
  · obtain ⟨hk, rfl⟩ := WS_inv hq
    exact h.2 k hk
theorem WS_set {ad : Nat → Nat} {cs : Nat → ClassId} {g : Mem} {k : Nat} (h : k < 73) (f : Nat → Int32) : (WS ad cs g).set k (ad k, CE ad cs f (sh k)) = WS ad cs (upR g k f) := by
  apply List.ext_getElem?
  intro j
  by_cases hj : j < 73
  · rw [WS_get hj]
    by_cases hk : k = j
    · subst hk
      rw [List.getElem?_set_self (by unfold WS; simp; exact h)]
      simp [upR]
    · rw [List.getElem?_set_ne hk, WS_get hj]
      have : ¬ j = k := fun q => hk q.symm
      simp [upR, this]
  · rw [List.getElem?_eq_none (by simp [WS]; omega), List.getElem?_eq_none (by simp [WS]; omega)]
theorem WS_obj {ad : Nat → Nat} {cs : Nat → ClassId} {g : Mem} {k ci : Nat} {rs : List (Option Nat)} (h : k < 73) (hs : sh k = (0, ci, rs)) : (WS ad cs g)[k]? = some (ad k, .inr (ci, rs.mapIdx (fun i o => match o with | some j => Value.ref (ad j) | none => Value.int (g k i)))) := by
  rw [WS_get h, hs]; rfl
theorem WS_arr {ad : Nat → Nat} {cs : Nat → ClassId} {g : Mem} {k n : Nat} {rs : List (Option Nat)} (h : k < 73) (hs : sh k = (1, n, rs)) : (WS ad cs g)[k]? = some (ad k, .inl (cs 0, n, .inl (g k))) := by
  rw [WS_get h, hs]; rfl
theorem WS_arz {ad : Nat → Nat} {cs : Nat → ClassId} {g : Mem} {k n : Nat} {rs : List (Option Nat)} (h : k < 73) (hs : sh k = (2, n, rs)) : (WS ad cs g)[k]? = some (ad k, .inl (cs 1, n, .inl (g k))) := by
  rw [WS_get h, hs]; rfl
theorem WS_arq {ad : Nat → Nat} {cs : Nat → ClassId} {g : Mem} {k n : Nat} {rs : List (Option Nat)} (h : k < 73) (hs : sh k = (3, n, rs)) : (WS ad cs g)[k]? = some (ad k, .inl (cs 2, n, .inr (.inr (.inr (.inr (fun i => ((rs[i]?).getD none).map ad)))))) := by
  rw [WS_get h, hs]; rfl
theorem WS_put {ad : Nat → Nat} {cs : Nat → ClassId} {g : Mem} {k ci i : Nat} {x : Int32} {rs : List (Option Nat)} (h : k < 73) (hs : sh k = (0, ci, rs)) (hi : rs[i]? = some none) :
    (WS ad cs g).set k (ad k, .inr (ci, (rs.mapIdx (fun i o => match o with | some j => Value.ref (ad j) | none => Value.int (g k i))).set i (.int x))) = WS ad cs (up g k i x) := by
  unfold up
  rw [← WS_set h, hs]
  show _ = (WS ad cs g).set k (ad k, .inr (ci, rs.mapIdx (fun i_1 o => match o with | some j => Value.ref (ad j) | none => Value.int (upd (g k) i x i_1))))
  congr 4
  apply List.ext_getElem?
  intro j
  by_cases hj : i = j
  · subst hj
    rw [List.getElem?_set_self (by rw [List.length_mapIdx]; exact (List.getElem?_eq_some_iff.mp hi).1), List.getElem?_mapIdx, hi]
    simp [upd]
  · rw [List.getElem?_set_ne hj, List.getElem?_mapIdx, List.getElem?_mapIdx]
    have hj' : ¬ j = i := fun q => hj q.symm
    simp [upd, hj']
theorem WS_ast {ad : Nat → Nat} {cs : Nat → ClassId} {g : Mem} {k n i : Nat} {x : Int32} {rs : List (Option Nat)} (h : k < 73) (hs : sh k = (1, n, rs)) :
    (WS ad cs g).set k (ad k, .inl (cs 0, n, .inl (upd (g k) i x))) = WS ad cs (up g k i x) := by
  unfold up
  rw [← WS_set h, hs]; rfl
theorem WS_asz {ad : Nat → Nat} {cs : Nat → ClassId} {g : Mem} {k n i : Nat} {x : Int32} {rs : List (Option Nat)} (h : k < 73) (hs : sh k = (2, n, rs)) :
    (WS ad cs g).set k (ad k, .inl (cs 1, n, .inl (upd (g k) i x))) = WS ad cs (up g k i x) := by
  unfold up
  rw [← WS_set h, hs]; rfl
theorem WS_cpy {ad : Nat → Nat} {cs : Nat → ClassId} {g : Mem} {a k n sp dp c : Nat} {rs : List (Option Nat)} (h : k < 73) (hs : sh k = (1, n, rs)) :
    (WS ad cs g).set k (ad k, .inl (cs 0, n, .inl (va_cpy (g a) (g k) sp dp c))) = WS ad cs (cpy g a sp k dp c) := by
  unfold cpy
  rw [← WS_set h, hs]; rfl
/-! locals -/
def nth : List (Option AV) → Nat → Option AV
  | [], _ => none
  | a :: _, 0 => a
  | _ :: t, n + 1 => nth t n
def setL : List (Option AV) → Nat → AV → List (Option AV)
  | [], _, _ => []
  | _ :: t, 0, v => some v :: t
  | a :: t, n + 1, v => a :: setL t n v
def msk : List Bool → List (Option AV) → List (Option AV)
  | true :: bs, a :: t => a :: msk bs t
  | false :: bs, _ :: t => none :: msk bs t
  | _, _ => []
theorem nth_lt {L : List (Option AV)} {k : Nat} {v : AV} (h : nth L k = some v) : k < L.length := by
  induction L generalizing k with
  | nil => cases h
  | cons a t ih =>
    cases k with
    | zero => simp
    | succ n => simpa using ih (k := n) h
theorem nth_setL {L : List (Option AV)} {i k : Nat} {v w : AV} (h : nth (setL L i v) k = some w) : (k = i ∧ w = v) ∨ (k ≠ i ∧ nth L k = some w) := by
  induction L generalizing i k with
  | nil => cases h
  | cons a t ih =>
    cases i with
    | zero =>
      cases k with
      | zero => left; exact ⟨rfl, (Option.some.inj h).symm⟩
      | succ n => right; exact ⟨by omega, h⟩
    | succ j =>
      cases k with
      | zero => right; exact ⟨by omega, h⟩
      | succ n =>
        rcases ih (i := j) (k := n) h with ⟨q1, q2⟩ | ⟨q1, q2⟩
        · left; exact ⟨by omega, q2⟩
        · right; exact ⟨by omega, q2⟩
theorem msk_nth (bs : List Bool) {L : List (Option AV)} {i : Nat} {w : AV} (h : nth (msk bs L) i = some w) : nth L i = some w := by
  induction L generalizing bs i with
  | nil => cases bs with
    | nil => cases h
    | cons b bs => cases b <;> cases h
  | cons a t ih =>
    cases bs with
    | nil => cases h
    | cons b bs =>
      cases b with
      | true =>
        cases i with
        | zero => exact h
        | succ n => exact ih bs (i := n) h
      | false =>
        cases i with
        | zero => cases h
        | succ n => exact ih bs (i := n) h
def LV (ad : Nat → Nat) (ls : Array Slot) (nL : Nat) (L : List (Option AV)) : Prop := ls.size = nL ∧ lv_wf ls ∧ ∀ (k : Nat) (v : AV), nth L k = some v → ls[k]? = some (.val (cv ad v))
def prs (ad : Nat → Nat) (L : List (Option AV)) : List (Nat × Value) := (List.range L.length).filterMap (fun k => (nth L k).map (fun v => (k, cv ad v)))
theorem prs_mem {ad : Nat → Nat} {L : List (Option AV)} {k : Nat} {v : AV} (h : nth L k = some v) : (k, cv ad v) ∈ prs ad L :=
  List.mem_filterMap.mpr ⟨k, List.mem_range.mpr (nth_lt h), by rw [h]; rfl⟩
theorem LV_has {ad : Nat → Nat} {ls : Array Slot} {nL : Nat} {L : List (Option AV)} (h : LV ad ls nL L) : lv_has ls nL (prs ad L) := by
  refine ⟨h.1, h.2.1, fun q hq => ?_⟩
  obtain ⟨k, -, hk⟩ := List.mem_filterMap.mp hq
  cases hv : nth L k with
  | none => rw [hv] at hk; cases hk
  | some v =>
    rw [hv] at hk
    cases hk
    exact h.2.2 k v hv
theorem LV_place {ad : Nat → Nat} {L : List (Option AV)} {k : Nat} {x : Int32} (h : nth L k = some (.inl x)) : ∃ j : Nat, (prs ad L)[j]? = some (k, .int x) := List.getElem?_of_mem (prs_mem (ad := ad) h)
theorem LV_set {ad : Nat → Nat} {ls ls' : Array Slot} {nL i : Nat} {x : Int32} {L : List (Option AV)} (h : LV ad ls nL L) (h' : lv_has ls' nL ((i, Value.int x) :: (prs ad L).filter (fun q => !(q.1 == i) && !(q.1 + 1 == i && q.2.category == 2)))) : LV ad ls' nL (setL L i (.inl x)) := by
  refine ⟨h'.1, h'.2.1, fun k v hv => ?_⟩
  rcases nth_setL hv with ⟨rfl, rfl⟩ | ⟨hk, hv⟩
  · exact h'.2.2 _ List.mem_cons_self
  · refine h'.2.2 (k, cv ad v) (List.mem_cons_of_mem _ (List.mem_filter.mpr ⟨prs_mem hv, ?_⟩))
    simp [hk, cv_cat]
theorem nar_z {x : Int32} (h : x = 0 ∨ x = 1) : narrow .boolean (.int x) = .int x := by rcases h with rfl | rfl <;> rfl
theorem fit_z {x : Int32} (h : x = 0 ∨ x = 1) : fits .boolean (.int x) = true := by rcases h with rfl | rfl <;> rfl
/-! the judgement -/
def CX (M : MT) (X : Option (Nat × (Nat → Int32))) (p : Program) (R : Room) (s : State) (m : MethodId) (args : Array Value) (c : Code) (D : va_G) (ad : Nat → Nat) (cs : Nat → ClassId) (A : Nat → Prop) (cells slots : Nat) : Prop :=
  p.tables.exec = Jvm.exec ∧ c.code = M.2.1 ∧ c.maxLocals = M.2.2.1 ∧ s.vm.findClass M.1.cls = some m.cls ∧ (∀ w ∈ TW, w.before args s = true) ∧ va_K D vwCl (TY cs) s ∧ AD A ad ∧ (∀ q : Nat, s.heap.size ≤ q → A q) ∧
  (R.frames = M.2.2.2.2.1 ∧ R.locals = M.2.2.2.2.2 ∧ cells ≤ R.cells ∧ slots ≤ R.slots) ∧ ∀ q : Nat × (Nat → Int32), X = some q → va_X (ad 73) q.1 q.2 s s.heap ∧ ad 73 < s.heap.size ∧ ¬ A (ad 73)
def EN (M : MT) (p : Program) (l : Launch) (e : Env) (R : Room) (s : State) (m : MethodId) (args : Array Value) (below : List Frame) (meth : Method) (c : Code) (D : va_G) (ad : Nat → Nat) (cs : Nat → ClassId) (A : Nat → Prop) (cells slots : Nat) (Z : State → Prop) (r : Int32) (g' : Mem) : Prop :=
  ∀ (H : Heap) (locs : List Loc) (ls : Array Slot) (pc : Nat), va_P D vwCl (WS ad cs g') H → va_S A s.heap H locs →
    (decode M.2.1 pc = .ok (.ireturn, 1) → M.2.2.2.1 ≠ none → (M.2.2.2.1 = some .boolean → r = 0 ∨ r = 1) → W p l e R s m args below meth c H locs cells slots Z (F0 m pc ls [.int r])) ∧
    (decode M.2.1 pc = .ok (.return_, 1) → M.2.2.2.1 = none → r = 0 → W p l e R s m args below meth c H locs cells slots Z (F0 m pc ls []))
def aw (M : MT) (X : Option (Nat × (Nat → Int32))) (pc : Nat) (L : List (Option AV)) (st : List AV) (g : Mem) (F : Option (Int32 × Mem)) : Prop :=
  ∀ (r : Int32) (g' : Mem), F = some (r, g') → ∀ (p : Program) (l : Launch) (e : Env) (R : Room) (s : State) (m : MethodId) (args : Array Value) (below : List Frame) (meth : Method) (c : Code) (D : va_G) (ad : Nat → Nat) (cs : Nat → ClassId) (A : Nat → Prop) (cells slots : Nat) (Z : State → Prop),
    CX M X p R s m args c D ad cs A cells slots → EN M p l e R s m args below meth c D ad cs A cells slots Z r g' →
    ∀ (H : Heap) (locs : List Loc) (ls : Array Slot), va_P D vwCl (WS ad cs g) H → va_S A s.heap H locs → LV ad ls M.2.2.1 L → W p l e R s m args below meth c H locs cells slots Z (F0 m pc ls (st.map (cv ad)))
def IN (M : MT) (pc : Nat) (i : Instr) (n pc' : Nat) : Prop := decode M.2.1 pc = .ok (i, n) ∧ pc + n = pc'
def BR (M : MT) (pc : Nat) (i : Instr) (pc' tgt : Nat) (off : Int) : Prop := decode M.2.1 pc = .ok (i, 3) ∧ pc + 3 = pc' ∧ (pc : Int) + off = (tgt : Int)
/-- a field by its link: the class's number, the slot -/
def FL (own : String) (idx ci i : Nat) : Prop := ∃ (C : String) (T : u_T) (N : Nat), vwCl[ci]? = some (C, T, N) ∧ i < N ∧ (∀ w ∈ u_ws C T N, w ∈ TW) ∧ Cond.fieldLink own idx (T i).1 (T i).2.1 (T i).2.2.1 ∈ TW
def FP (own : String) (idx ci i : Nat) (ty : FieldType) : Prop := ∃ (C : String) (T : u_T) (N : Nat) (ty0 : Nat → FieldType), vwCl[ci]? = some (C, T, N) ∧ i < N ∧ (∀ w ∈ u_ws C T N, w ∈ TW) ∧ Cond.fieldLink own idx (T i).1 (T i).2.1 (T i).2.2.1 ∈ TW ∧
  (∀ k, k < N → parseFieldDescriptor (T k).2.2.1 = some (ty0 k)) ∧ (∀ a, a < N → ∀ b, b < N → a ≠ b → (T a).2.1 ≠ (T b).2.1) ∧ (T i).2.2.2 = false ∧ parseFieldDescriptor (T i).2.2.1 = some ty
def MMx (nm : MethodName) (cd : ByteArray) (own : String) (idx : Nat) : Prop := Cond.methodLink own idx nm ∈ TW ∧ Cond.static nm ∈ TW ∧ Cond.initialized "java/lang/Math" ∈ TW ∧ Cond.code nm cd 2 (some .int) ∈ TW
def MAc (own : String) (idx : Nat) : Prop := Cond.methodLink own idx arraycopyName ∈ TW ∧ Cond.native arraycopyName ∈ TW ∧ Cond.static arraycopyName ∈ TW ∧ Cond.initialized "java/lang/System" ∈ TW
/-! contracts and calls -/
def QX (ret : Option FieldType) (r : Int32) (g' : Mem) (D : va_G) (ad : Nat → Nat) (cs : Nat → ClassId) (A : Nat → Prop) : Array Value → State → Outcome → State → Prop := match ret with
  | none => va_Qv (S := Unit) (fun _ => r = 0) (fun _ t => va_P D vwCl (WS ad cs g') t.heap) A
  | some _ => va_Qi (S := Unit) (fun r' _ => r' = r) (fun _ t => va_P D vwCl (WS ad cs g') t.heap) A
def CT (M : MT) (As : List AV) (g : Mem) (F : Option (Int32 × Mem)) : Prop :=
  ∀ (r : Int32) (g' : Mem), F = some (r, g') → ∀ (l : Launch) (D : va_G) (ad : Nat → Nat) (cs : Nat → ClassId) (sz : Nat),
    Met l M.1 (Cond.code M.1 M.2.1 M.2.2.1 M.2.2.2.1 :: TW) { frames := M.2.2.2.2.1, cells := 0, slots := 0, locals := M.2.2.2.2.2 }
      (va_Pc (As.map (cv ad)) (fun U => U.heap.size = sz ∧ va_P D vwCl (WS ad cs g) U.heap ∧ va_K D vwCl (TY cs) U ∧ AD (fun _ => True) ad))
      (QX M.2.2.2.1 r g' D ad cs (va_A (WS ad cs g) sz)) 0 0 (va_A (WS ad cs g) sz)
/-- what the tables say of a method: code, class; of an instance: its choice -/
def MC (M : MT) (n : Nat) : Prop := Cond.code M.1 M.2.1 M.2.2.1 M.2.2.2.1 ∈ TW ∧ Cond.initialized M.1.cls ∈ TW ∧ M.1.cls ≠ "java/lang/invoke/MethodHandle" ∧ M.1.cls ≠ "java/lang/invoke/VarHandle" ∧ (parseMethodDescriptor M.1.desc).map (fun d => d.parameters.length) = some n
def MV (M : MT) : Prop := Cond.instanceMethod M.1 ∈ TW ∧ Cond.selects M.1.cls M.1 M.1 ∈ TW
def RC (k : Nat) (C : String) : Prop := k < 73 ∧ ∃ (ci : Nat) (rs : List (Option Nat)) (T : u_T) (N : Nat), sh k = (0, ci, rs) ∧ vwCl[ci]? = some (C, T, N)
def pu : List AV → List AV → List AV
  | [], st => st
  | a :: t, st => pu t (a :: st)
theorem pu_eq (As st : List AV) : pu As st = As.reverse ++ st := by
  induction As generalizing st with
  | nil => rfl
  | cons a t ih => show pu t (a :: st) = _; rw [ih, List.reverse_cons, List.append_assoc]; rfl
theorem pu_map (ad : Nat → Nat) (As st : List AV) : (pu As st).map (cv ad) = (As.map (cv ad)).reverse ++ st.map (cv ad) := by
  rw [pu_eq, List.map_append, List.map_reverse]
theorem lw_goodIn {big : List Cond} (hb : ∀ w ∈ TW, w ∈ big) (ws : List Cond) (h : ∀ w ∈ ws, w ∈ TW) : GoodIn big ws := fun w hw => ⟨hb w (h w hw), good_of_word (List.mem_filter.mp (h w hw)).2⟩
theorem AD_A {A : Nat → Prop} {ad : Nat → Nat} (h : AD A ad) {cs : Nat → ClassId} {g : Mem} {H0 H : Heap} {locs : List Loc} (hS : va_S A H0 H locs) (hA : ∀ q : Nat, H0.size ≤ q → A q) : ∀ q, va_A (WS ad cs g) H.size q → A q := by
  intro q hq
  rcases hq with ⟨k, e, hk⟩ | hq
  · obtain ⟨hk73, he⟩ := WS_inv hk
    have hq : q = ad k := congrArg Prod.fst he
    rw [hq]
    exact h.2 k hk73
  · exact hA q (Nat.le_trans hS.1 hq)
section AWS
variable {M M' : MT} {X : Option (Nat × (Nat → Int32))} {pc pc' tgt : Nat} {L L' : List (Option AV)} {st : List AV} {g : Mem} {F F1 F2 : Option (Int32 × Mem)} {x y v : Int32}
theorem aw_iadd (h : IN M pc .iadd 1 pc') (k : aw M X pc' L (.inl (x + y) :: st) g F) : aw M X pc L (.inl y :: .inl x :: st) g F := by
  intro r g' hF p l e R s m args below meth c D ad cs A cells slots Z C E H locs ls hP hS hl
  obtain ⟨h1, rfl⟩ := h
  exact lv_iadd C.1 C.2.1 h1 (k r g' hF p l e R s m args below meth c D ad cs A cells slots Z C E H locs ls hP hS hl)
theorem aw_isub (h : IN M pc .isub 1 pc') (k : aw M X pc' L (.inl (x - y) :: st) g F) : aw M X pc L (.inl y :: .inl x :: st) g F := by
  intro r g' hF p l e R s m args below meth c D ad cs A cells slots Z C E H locs ls hP hS hl
  obtain ⟨h1, rfl⟩ := h
  exact lv_isub C.1 C.2.1 h1 (k r g' hF p l e R s m args below meth c D ad cs A cells slots Z C E H locs ls hP hS hl)
theorem aw_imul (h : IN M pc .imul 1 pc') (k : aw M X pc' L (.inl (x * y) :: st) g F) : aw M X pc L (.inl y :: .inl x :: st) g F := by
  intro r g' hF p l e R s m args below meth c D ad cs A cells slots Z C E H locs ls hP hS hl
  obtain ⟨h1, rfl⟩ := h
  exact lv_imul C.1 C.2.1 h1 (k r g' hF p l e R s m args below meth c D ad cs A cells slots Z C E H locs ls hP hS hl)
theorem aw_iand (h : IN M pc .iand 1 pc') (k : aw M X pc' L (.inl (x &&& y) :: st) g F) : aw M X pc L (.inl y :: .inl x :: st) g F := by
  intro r g' hF p l e R s m args below meth c D ad cs A cells slots Z C E H locs ls hP hS hl
  obtain ⟨h1, rfl⟩ := h
  exact lv_iand C.1 C.2.1 h1 (k r g' hF p l e R s m args below meth c D ad cs A cells slots Z C E H locs ls hP hS hl)
theorem aw_ior (h : IN M pc .ior 1 pc') (k : aw M X pc' L (.inl (x ||| y) :: st) g F) : aw M X pc L (.inl y :: .inl x :: st) g F := by
  intro r g' hF p l e R s m args below meth c D ad cs A cells slots Z C E H locs ls hP hS hl
  obtain ⟨h1, rfl⟩ := h
  exact lv_ior C.1 C.2.1 h1 (k r g' hF p l e R s m args below meth c D ad cs A cells slots Z C E H locs ls hP hS hl)
theorem aw_ixor (h : IN M pc .ixor 1 pc') (k : aw M X pc' L (.inl (x ^^^ y) :: st) g F) : aw M X pc L (.inl y :: .inl x :: st) g F := by
  intro r g' hF p l e R s m args below meth c D ad cs A cells slots Z C E H locs ls hP hS hl
  obtain ⟨h1, rfl⟩ := h
  exact lv_ixor C.1 C.2.1 h1 (k r g' hF p l e R s m args below meth c D ad cs A cells slots Z C E H locs ls hP hS hl)
theorem aw_ishl (h : IN M pc .ishl 1 pc') (k : aw M X pc' L (.inl (x <<< (y &&& 31)) :: st) g F) : aw M X pc L (.inl y :: .inl x :: st) g F := by
  intro r g' hF p l e R s m args below meth c D ad cs A cells slots Z C E H locs ls hP hS hl
  obtain ⟨h1, rfl⟩ := h
  exact lv_ishl C.1 C.2.1 h1 (k r g' hF p l e R s m args below meth c D ad cs A cells slots Z C E H locs ls hP hS hl)
theorem aw_ishr (h : IN M pc .ishr 1 pc') (k : aw M X pc' L (.inl (x >>> (y &&& 31)) :: st) g F) : aw M X pc L (.inl y :: .inl x :: st) g F := by
  intro r g' hF p l e R s m args below meth c D ad cs A cells slots Z C E H locs ls hP hS hl
  obtain ⟨h1, rfl⟩ := h
  exact lv_ishr C.1 C.2.1 h1 (k r g' hF p l e R s m args below meth c D ad cs A cells slots Z C E H locs ls hP hS hl)
theorem aw_iushr (h : IN M pc .iushr 1 pc') (k : aw M X pc' L (.inl (ushr x y) :: st) g F) : aw M X pc L (.inl y :: .inl x :: st) g F := by
  intro r g' hF p l e R s m args below meth c D ad cs A cells slots Z C E H locs ls hP hS hl
  obtain ⟨h1, rfl⟩ := h
  exact lv_iushr C.1 C.2.1 h1 rfl (k r g' hF p l e R s m args below meth c D ad cs A cells slots Z C E H locs ls hP hS hl)
theorem aw_ineg (h : IN M pc .ineg 1 pc') (k : aw M X pc' L (.inl (-x) :: st) g F) : aw M X pc L (.inl x :: st) g F := by
  intro r g' hF p l e R s m args below meth c D ad cs A cells slots Z C E H locs ls hP hS hl
  obtain ⟨h1, rfl⟩ := h
  exact lv_ineg C.1 C.2.1 h1 (k r g' hF p l e R s m args below meth c D ad cs A cells slots Z C E H locs ls hP hS hl)
theorem aw_i2b (h : IN M pc .i2b 1 pc') (k : aw M X pc' L (.inl (x.toInt8.toInt32) :: st) g F) : aw M X pc L (.inl x :: st) g F := by
  intro r g' hF p l e R s m args below meth c D ad cs A cells slots Z C E H locs ls hP hS hl
  obtain ⟨h1, rfl⟩ := h
  exact lv_i2b C.1 C.2.1 h1 rfl (k r g' hF p l e R s m args below meth c D ad cs A cells slots Z C E H locs ls hP hS hl)
theorem aw_i2s (h : IN M pc .i2s 1 pc') (k : aw M X pc' L (.inl (x.toInt16.toInt32) :: st) g F) : aw M X pc L (.inl x :: st) g F := by
  intro r g' hF p l e R s m args below meth c D ad cs A cells slots Z C E H locs ls hP hS hl
  obtain ⟨h1, rfl⟩ := h
  exact lv_i2s C.1 C.2.1 h1 rfl (k r g' hF p l e R s m args below meth c D ad cs A cells slots Z C E H locs ls hP hS hl)
theorem aw_idiv (h : IN M pc .idiv 1 pc') (k : aw M X pc' L (.inl (x / y) :: st) g F) : aw M X pc L (.inl y :: .inl x :: st) g (nz y F) := by
  intro r g' hF p l e R s m args below meth c D ad cs A cells slots Z C E H locs ls hP hS hl
  obtain ⟨h1, rfl⟩ := h
  obtain ⟨hne, hF⟩ := nz_some hF
  exact lv_idiv C.1 C.2.1 h1 hne (k r g' hF p l e R s m args below meth c D ad cs A cells slots Z C E H locs ls hP hS hl)
theorem aw_irem (h : IN M pc .irem 1 pc') (k : aw M X pc' L (.inl (irm x y) :: st) g F) : aw M X pc L (.inl y :: .inl x :: st) g (nz y F) := by
  intro r g' hF p l e R s m args below meth c D ad cs A cells slots Z C E H locs ls hP hS hl
  obtain ⟨h1, rfl⟩ := h
  obtain ⟨hne, hF⟩ := nz_some hF
  exact lv_irem C.1 C.2.1 h1 hne (k r g' hF p l e R s m args below meth c D ad cs A cells slots Z C E H locs ls hP hS hl)
theorem aw_iconst {n : Int} (h : IN M pc (.iconst n) 1 pc') (hv : Int32.ofInt n = v) (k : aw M X pc' L (.inl v :: st) g F) : aw M X pc L st g F := by
  intro r g' hF p l e R s m args below meth c D ad cs A cells slots Z C E H locs ls hP hS hl
  obtain ⟨h1, rfl⟩ := h
  exact lv_iconst C.1 C.2.1 h1 hv (k r g' hF p l e R s m args below meth c D ad cs A cells slots Z C E H locs ls hP hS hl)
theorem aw_bipush {n : Int} (h : IN M pc (.bipush n) 2 pc') (hv : (Int8.ofInt n).toInt32 = v) (k : aw M X pc' L (.inl v :: st) g F) : aw M X pc L st g F := by
  intro r g' hF p l e R s m args below meth c D ad cs A cells slots Z C E H locs ls hP hS hl
  obtain ⟨h1, rfl⟩ := h
  exact lv_bipush C.1 C.2.1 h1 hv (k r g' hF p l e R s m args below meth c D ad cs A cells slots Z C E H locs ls hP hS hl)
theorem aw_sipush {n : Int} (h : IN M pc (.sipush n) 3 pc') (hv : (Int16.ofInt n).toInt32 = v) (k : aw M X pc' L (.inl v :: st) g F) : aw M X pc L st g F := by
  intro r g' hF p l e R s m args below meth c D ad cs A cells slots Z C E H locs ls hP hS hl
  obtain ⟨h1, rfl⟩ := h
  exact lv_sipush C.1 C.2.1 h1 hv (k r g' hF p l e R s m args below meth c D ad cs A cells slots Z C E H locs ls hP hS hl)
theorem aw_ldc {n : Nat} (h : IN M pc (.ldc n) 2 pc') (hv : Cond.constant M.1.cls n v ∈ TW) (k : aw M X pc' L (.inl v :: st) g F) : aw M X pc L st g F := by
  intro r g' hF p l e R s m args below meth c D ad cs A cells slots Z C E H locs ls hP hS hl
  obtain ⟨h1, rfl⟩ := h
  exact lv_ldc C.1 C.2.1 C.2.2.2.1 (C.2.2.2.2.1 _ hv) h1 (k r g' hF p l e R s m args below meth c D ad cs A cells slots Z C E H locs ls hP hS hl)
theorem aw_ldcw {n : Nat} (h : IN M pc (.ldc_w n) 3 pc') (hv : Cond.constant M.1.cls n v ∈ TW) (k : aw M X pc' L (.inl v :: st) g F) : aw M X pc L st g F := by
  intro r g' hF p l e R s m args below meth c D ad cs A cells slots Z C E H locs ls hP hS hl
  obtain ⟨h1, rfl⟩ := h
  exact lv_ldcw C.1 C.2.1 C.2.2.2.1 (C.2.2.2.2.1 _ hv) h1 (k r g' hF p l e R s m args below meth c D ad cs A cells slots Z C E H locs ls hP hS hl)
theorem aw_iload_n {q : Fin 4} {i : Nat} (h : IN M pc (.iload_n q) 1 pc') (hi : (q : Nat) = i) (hv : nth L i = some (.inl x)) (k : aw M X pc' L (.inl x :: st) g F) : aw M X pc L st g F := by
  intro r g' hF p l e R s m args below meth c D ad cs A cells slots Z C E H locs ls hP hS hl
  obtain ⟨h1, rfl⟩ := h
  exact lv_iload_n C.1 C.2.1 h1 hi (hl.2.2 _ _ hv) (k r g' hF p l e R s m args below meth c D ad cs A cells slots Z C E H locs ls hP hS hl)
theorem aw_iload {i : Nat} (h : IN M pc (.iload i) 2 pc') (hv : nth L i = some (.inl x)) (k : aw M X pc' L (.inl x :: st) g F) : aw M X pc L st g F := by
  intro r g' hF p l e R s m args below meth c D ad cs A cells slots Z C E H locs ls hP hS hl
  obtain ⟨h1, rfl⟩ := h
  exact lv_iload C.1 C.2.1 h1 (hl.2.2 _ _ hv) (k r g' hF p l e R s m args below meth c D ad cs A cells slots Z C E H locs ls hP hS hl)
theorem aw_aload_n {q : Fin 4} {i a : Nat} (h : IN M pc (.aload_n q) 1 pc') (hi : (q : Nat) = i) (hv : nth L i = some (.inr a)) (k : aw M X pc' L (.inr a :: st) g F) : aw M X pc L st g F := by
  intro r g' hF p l e R s m args below meth c D ad cs A cells slots Z C E H locs ls hP hS hl
  obtain ⟨h1, rfl⟩ := h
  exact lv_aload_n C.1 C.2.1 h1 hi (hl.2.2 _ _ hv) (k r g' hF p l e R s m args below meth c D ad cs A cells slots Z C E H locs ls hP hS hl)
theorem aw_aload {i a : Nat} (h : IN M pc (.aload i) 2 pc') (hv : nth L i = some (.inr a)) (k : aw M X pc' L (.inr a :: st) g F) : aw M X pc L st g F := by
  intro r g' hF p l e R s m args below meth c D ad cs A cells slots Z C E H locs ls hP hS hl
  obtain ⟨h1, rfl⟩ := h
  exact lv_aload C.1 C.2.1 h1 (hl.2.2 _ _ hv) (k r g' hF p l e R s m args below meth c D ad cs A cells slots Z C E H locs ls hP hS hl)
theorem aw_istore_n {q : Fin 4} {i : Nat} (h : IN M pc (.istore_n q) 1 pc') (hi : (q : Nat) = i) (hn : i < M.2.2.1) (hL : setL L i (.inl x) = L') (k : aw M X pc' L' st g F) : aw M X pc L (.inl x :: st) g F := by
  intro r g' hF p l e R s m args below meth c D ad cs A cells slots Z C E H locs ls hP hS hl
  obtain ⟨h1, rfl⟩ := h
  subst hL
  exact lv_istore_n C.1 C.2.1 h1 hi (LV_has hl) hn rfl (fun ls' h' => k r g' hF p l e R s m args below meth c D ad cs A cells slots Z C E H locs ls' hP hS (LV_set hl h'))
theorem aw_istore {i : Nat} (h : IN M pc (.istore i) 2 pc') (hn : i < M.2.2.1) (hL : setL L i (.inl x) = L') (k : aw M X pc' L' st g F) : aw M X pc L (.inl x :: st) g F := by
  intro r g' hF p l e R s m args below meth c D ad cs A cells slots Z C E H locs ls hP hS hl
  obtain ⟨h1, rfl⟩ := h
  subst hL
  exact lv_istore C.1 C.2.1 h1 (LV_has hl) hn rfl (fun ls' h' => k r g' hF p l e R s m args below meth c D ad cs A cells slots Z C E H locs ls' hP hS (LV_set hl h'))
theorem aw_iinc {i : Nat} {n : Int} (h : IN M pc (.iinc i n) 3 pc') (hv : nth L i = some (.inl x)) (hx : x + Int32.ofInt n = v) (hn : i < M.2.2.1) (hL : setL L i (.inl v) = L') (k : aw M X pc' L' st g F) : aw M X pc L st g F := by
  intro r g' hF p l e R s m args below meth c D ad cs A cells slots Z C E H locs ls hP hS hl
  obtain ⟨h1, rfl⟩ := h
  subst hL
  obtain ⟨j, hj⟩ := LV_place (ad := ad) hv
  exact lv_iinc C.1 C.2.1 h1 (LV_has hl) hj hx hn rfl (fun ls' h' => k r g' hF p l e R s m args below meth c D ad cs A cells slots Z C E H locs ls' hP hS (LV_set hl h'))
theorem aw_dup {a : AV} (h : IN M pc .dup 1 pc') (k : aw M X pc' L (a :: a :: st) g F) : aw M X pc L (a :: st) g F := by
  intro r g' hF p l e R s m args below meth c D ad cs A cells slots Z C E H locs ls hP hS hl
  obtain ⟨h1, rfl⟩ := h
  exact lv_dup C.1 C.2.1 h1 (cv_cat ad a) (k r g' hF p l e R s m args below meth c D ad cs A cells slots Z C E H locs ls hP hS hl)
theorem aw_dup2 {a b : AV} (h : IN M pc .dup2 1 pc') (k : aw M X pc' L (a :: b :: a :: b :: st) g F) : aw M X pc L (a :: b :: st) g F := by
  intro r g' hF p l e R s m args below meth c D ad cs A cells slots Z C E H locs ls hP hS hl
  obtain ⟨h1, rfl⟩ := h
  exact lv_dup2_11 C.1 C.2.1 h1 (cv_cat ad a) (cv_cat ad b) (k r g' hF p l e R s m args below meth c D ad cs A cells slots Z C E H locs ls hP hS hl)
theorem aw_pop {a : AV} (h : IN M pc .pop 1 pc') (k : aw M X pc' L st g F) : aw M X pc L (a :: st) g F := by
  intro r g' hF p l e R s m args below meth c D ad cs A cells slots Z C E H locs ls hP hS hl
  obtain ⟨h1, rfl⟩ := h
  exact lv_pop C.1 C.2.1 h1 (cv_cat ad a) (k r g' hF p l e R s m args below meth c D ad cs A cells slots Z C E H locs ls hP hS hl)
theorem aw_icmp_eq {off : Int} (h : BR M pc (.if_icmp .eq off) pc' tgt off) (kt : aw M X tgt L st g F1) (kf : aw M X pc' L st g F2) : aw M X pc L (.inl y :: .inl x :: st) g (if x = y then F1 else F2) := by
  intro r g' hF p l e R s m args below meth c D ad cs A cells slots Z C E H locs ls hP hS hl
  obtain ⟨h1, rfl, h2⟩ := h
  exact lv_icmp_eq C.1 C.2.1 h1 h2 (fun hc => (kt r g' (by rw [if_pos hc] at hF; exact hF) p l e R s m args below meth c D ad cs A cells slots Z C E H locs ls hP hS hl)) (fun hc => (kf r g' (by rw [if_neg hc] at hF; exact hF) p l e R s m args below meth c D ad cs A cells slots Z C E H locs ls hP hS hl))
theorem aw_if_eq {off : Int} (h : BR M pc (.ifCond .eq off) pc' tgt off) (kt : aw M X tgt L st g F1) (kf : aw M X pc' L st g F2) : aw M X pc L (.inl x :: st) g (if x = 0 then F1 else F2) := by
  intro r g' hF p l e R s m args below meth c D ad cs A cells slots Z C E H locs ls hP hS hl
  obtain ⟨h1, rfl, h2⟩ := h
  exact lv_if_eq C.1 C.2.1 h1 h2 (fun hc => (kt r g' (by rw [if_pos hc] at hF; exact hF) p l e R s m args below meth c D ad cs A cells slots Z C E H locs ls hP hS hl)) (fun hc => (kf r g' (by rw [if_neg hc] at hF; exact hF) p l e R s m args below meth c D ad cs A cells slots Z C E H locs ls hP hS hl))
theorem aw_icmp_ne {off : Int} (h : BR M pc (.if_icmp .ne off) pc' tgt off) (kf : aw M X pc' L st g F1) (kt : aw M X tgt L st g F2) : aw M X pc L (.inl y :: .inl x :: st) g (if x = y then F1 else F2) := by
  intro r g' hF p l e R s m args below meth c D ad cs A cells slots Z C E H locs ls hP hS hl
  obtain ⟨h1, rfl, h2⟩ := h
  exact lv_icmp_ne C.1 C.2.1 h1 h2 (fun hc => (kt r g' (by rw [if_neg hc] at hF; exact hF) p l e R s m args below meth c D ad cs A cells slots Z C E H locs ls hP hS hl)) (fun hc => (kf r g' (by rw [if_pos hc] at hF; exact hF) p l e R s m args below meth c D ad cs A cells slots Z C E H locs ls hP hS hl))
theorem aw_if_ne {off : Int} (h : BR M pc (.ifCond .ne off) pc' tgt off) (kf : aw M X pc' L st g F1) (kt : aw M X tgt L st g F2) : aw M X pc L (.inl x :: st) g (if x = 0 then F1 else F2) := by
  intro r g' hF p l e R s m args below meth c D ad cs A cells slots Z C E H locs ls hP hS hl
  obtain ⟨h1, rfl, h2⟩ := h
  exact lv_if_ne C.1 C.2.1 h1 h2 (fun hc => (kt r g' (by rw [if_neg hc] at hF; exact hF) p l e R s m args below meth c D ad cs A cells slots Z C E H locs ls hP hS hl)) (fun hc => (kf r g' (by rw [if_pos hc] at hF; exact hF) p l e R s m args below meth c D ad cs A cells slots Z C E H locs ls hP hS hl))
theorem aw_icmp_lt {off : Int} (h : BR M pc (.if_icmp .lt off) pc' tgt off) (kt : aw M X tgt L st g F1) (kf : aw M X pc' L st g F2) : aw M X pc L (.inl y :: .inl x :: st) g (if x < y then F1 else F2) := by
  intro r g' hF p l e R s m args below meth c D ad cs A cells slots Z C E H locs ls hP hS hl
  obtain ⟨h1, rfl, h2⟩ := h
  exact lv_icmp_lt C.1 C.2.1 h1 h2 (fun hc => (kt r g' (by rw [if_pos hc] at hF; exact hF) p l e R s m args below meth c D ad cs A cells slots Z C E H locs ls hP hS hl)) (fun hc => (kf r g' (by rw [if_neg hc] at hF; exact hF) p l e R s m args below meth c D ad cs A cells slots Z C E H locs ls hP hS hl))
theorem aw_if_lt {off : Int} (h : BR M pc (.ifCond .lt off) pc' tgt off) (kt : aw M X tgt L st g F1) (kf : aw M X pc' L st g F2) : aw M X pc L (.inl x :: st) g (if x < 0 then F1 else F2) := by
  intro r g' hF p l e R s m args below meth c D ad cs A cells slots Z C E H locs ls hP hS hl
  obtain ⟨h1, rfl, h2⟩ := h
  exact lv_if_lt C.1 C.2.1 h1 h2 (fun hc => (kt r g' (by rw [if_pos hc] at hF; exact hF) p l e R s m args below meth c D ad cs A cells slots Z C E H locs ls hP hS hl)) (fun hc => (kf r g' (by rw [if_neg hc] at hF; exact hF) p l e R s m args below meth c D ad cs A cells slots Z C E H locs ls hP hS hl))
theorem aw_icmp_ge {off : Int} (h : BR M pc (.if_icmp .ge off) pc' tgt off) (kt : aw M X tgt L st g F1) (kf : aw M X pc' L st g F2) : aw M X pc L (.inl y :: .inl x :: st) g (if y ≤ x then F1 else F2) := by
  intro r g' hF p l e R s m args below meth c D ad cs A cells slots Z C E H locs ls hP hS hl
  obtain ⟨h1, rfl, h2⟩ := h
  exact lv_icmp_ge C.1 C.2.1 h1 h2 (fun hc => (kt r g' (by rw [if_pos hc] at hF; exact hF) p l e R s m args below meth c D ad cs A cells slots Z C E H locs ls hP hS hl)) (fun hc => (kf r g' (by rw [if_neg hc] at hF; exact hF) p l e R s m args below meth c D ad cs A cells slots Z C E H locs ls hP hS hl))
theorem aw_if_ge {off : Int} (h : BR M pc (.ifCond .ge off) pc' tgt off) (kt : aw M X tgt L st g F1) (kf : aw M X pc' L st g F2) : aw M X pc L (.inl x :: st) g (if 0 ≤ x then F1 else F2) := by
  intro r g' hF p l e R s m args below meth c D ad cs A cells slots Z C E H locs ls hP hS hl
  obtain ⟨h1, rfl, h2⟩ := h
  exact lv_if_ge C.1 C.2.1 h1 h2 (fun hc => (kt r g' (by rw [if_pos hc] at hF; exact hF) p l e R s m args below meth c D ad cs A cells slots Z C E H locs ls hP hS hl)) (fun hc => (kf r g' (by rw [if_neg hc] at hF; exact hF) p l e R s m args below meth c D ad cs A cells slots Z C E H locs ls hP hS hl))
theorem aw_icmp_gt {off : Int} (h : BR M pc (.if_icmp .gt off) pc' tgt off) (kt : aw M X tgt L st g F1) (kf : aw M X pc' L st g F2) : aw M X pc L (.inl y :: .inl x :: st) g (if y < x then F1 else F2) := by
  intro r g' hF p l e R s m args below meth c D ad cs A cells slots Z C E H locs ls hP hS hl
  obtain ⟨h1, rfl, h2⟩ := h
  exact lv_icmp_gt C.1 C.2.1 h1 h2 (fun hc => (kt r g' (by rw [if_pos hc] at hF; exact hF) p l e R s m args below meth c D ad cs A cells slots Z C E H locs ls hP hS hl)) (fun hc => (kf r g' (by rw [if_neg hc] at hF; exact hF) p l e R s m args below meth c D ad cs A cells slots Z C E H locs ls hP hS hl))
theorem aw_if_gt {off : Int} (h : BR M pc (.ifCond .gt off) pc' tgt off) (kt : aw M X tgt L st g F1) (kf : aw M X pc' L st g F2) : aw M X pc L (.inl x :: st) g (if 0 < x then F1 else F2) := by
  intro r g' hF p l e R s m args below meth c D ad cs A cells slots Z C E H locs ls hP hS hl
  obtain ⟨h1, rfl, h2⟩ := h
  exact lv_if_gt C.1 C.2.1 h1 h2 (fun hc => (kt r g' (by rw [if_pos hc] at hF; exact hF) p l e R s m args below meth c D ad cs A cells slots Z C E H locs ls hP hS hl)) (fun hc => (kf r g' (by rw [if_neg hc] at hF; exact hF) p l e R s m args below meth c D ad cs A cells slots Z C E H locs ls hP hS hl))
theorem aw_icmp_le {off : Int} (h : BR M pc (.if_icmp .le off) pc' tgt off) (kt : aw M X tgt L st g F1) (kf : aw M X pc' L st g F2) : aw M X pc L (.inl y :: .inl x :: st) g (if x ≤ y then F1 else F2) := by
  intro r g' hF p l e R s m args below meth c D ad cs A cells slots Z C E H locs ls hP hS hl
  obtain ⟨h1, rfl, h2⟩ := h
  exact lv_icmp_le C.1 C.2.1 h1 h2 (fun hc => (kt r g' (by rw [if_pos hc] at hF; exact hF) p l e R s m args below meth c D ad cs A cells slots Z C E H locs ls hP hS hl)) (fun hc => (kf r g' (by rw [if_neg hc] at hF; exact hF) p l e R s m args below meth c D ad cs A cells slots Z C E H locs ls hP hS hl))
theorem aw_if_le {off : Int} (h : BR M pc (.ifCond .le off) pc' tgt off) (kt : aw M X tgt L st g F1) (kf : aw M X pc' L st g F2) : aw M X pc L (.inl x :: st) g (if x ≤ 0 then F1 else F2) := by
  intro r g' hF p l e R s m args below meth c D ad cs A cells slots Z C E H locs ls hP hS hl
  obtain ⟨h1, rfl, h2⟩ := h
  exact lv_if_le C.1 C.2.1 h1 h2 (fun hc => (kt r g' (by rw [if_pos hc] at hF; exact hF) p l e R s m args below meth c D ad cs A cells slots Z C E H locs ls hP hS hl)) (fun hc => (kf r g' (by rw [if_neg hc] at hF; exact hF) p l e R s m args below meth c D ad cs A cells slots Z C E H locs ls hP hS hl))
theorem aw_goto {off : Int} (h : BR M pc (.goto off) pc' tgt off) (k : aw M X tgt L st g F) : aw M X pc L st g F := by
  intro r g' hF p l e R s m args below meth c D ad cs A cells slots Z C E H locs ls hP hS hl
  obtain ⟨h1, -, h2⟩ := h
  exact lv_goto C.1 C.2.1 h1 h2 (k r g' hF p l e R s m args below meth c D ad cs A cells slots Z C E H locs ls hP hS hl)
theorem aw_if_eq_T {off : Int} (h : BR M pc (.ifCond .eq off) pc' tgt off) (hc : x = 0) (kt : aw M X tgt L st g F) : aw M X pc L (.inl x :: st) g F := by
  intro r g' hF p l e R s m args below meth c D ad cs A cells slots Z C E H locs ls hP hS hl
  obtain ⟨h1, -, h2⟩ := h
  exact lv_if_eq C.1 C.2.1 h1 h2 (fun _ => (kt r g' hF p l e R s m args below meth c D ad cs A cells slots Z C E H locs ls hP hS hl)) (fun hn => absurd hc hn)
theorem aw_if_eq_F {off : Int} (h : BR M pc (.ifCond .eq off) pc' tgt off) (hc : ¬ x = 0) (kf : aw M X pc' L st g F) : aw M X pc L (.inl x :: st) g F := by
  intro r g' hF p l e R s m args below meth c D ad cs A cells slots Z C E H locs ls hP hS hl
  obtain ⟨h1, rfl, h2⟩ := h
  exact lv_if_eq C.1 C.2.1 h1 h2 (fun hn => absurd hn hc) (fun _ => (kf r g' hF p l e R s m args below meth c D ad cs A cells slots Z C E H locs ls hP hS hl))
theorem aw_if_ne_T {off : Int} (h : BR M pc (.ifCond .ne off) pc' tgt off) (hc : ¬ x = 0) (kt : aw M X tgt L st g F) : aw M X pc L (.inl x :: st) g F := by
  intro r g' hF p l e R s m args below meth c D ad cs A cells slots Z C E H locs ls hP hS hl
  obtain ⟨h1, -, h2⟩ := h
  exact lv_if_ne C.1 C.2.1 h1 h2 (fun _ => (kt r g' hF p l e R s m args below meth c D ad cs A cells slots Z C E H locs ls hP hS hl)) (fun hn => absurd hn hc)
theorem aw_if_ne_F {off : Int} (h : BR M pc (.ifCond .ne off) pc' tgt off) (hc : x = 0) (kf : aw M X pc' L st g F) : aw M X pc L (.inl x :: st) g F := by
  intro r g' hF p l e R s m args below meth c D ad cs A cells slots Z C E H locs ls hP hS hl
  obtain ⟨h1, rfl, h2⟩ := h
  exact lv_if_ne C.1 C.2.1 h1 h2 (fun hn => absurd hc hn) (fun _ => (kf r g' hF p l e R s m args below meth c D ad cs A cells slots Z C E H locs ls hP hS hl))
theorem aw_none : aw M X pc L st g none := fun r g' hF => by cases hF
theorem aw_lt {e : Int32} {G : Int32 → Option (Int32 × Mem)} (k : ∀ z : Int32, aw M X pc L (.inl z :: st) g (G z)) : aw M X pc L (.inl e :: st) g (lt e G) := k e
theorem aw_if {c : Prop} {i : Decidable c} (kt : c → aw M X pc L st g F1) (kf : ¬ c → aw M X pc L st g F2) : aw M X pc L st g (@ite _ c i F1 F2) := by
  by_cases hc : c
  · rw [if_pos hc]; exact kt hc
  · rw [if_neg hc]; exact kf hc
theorem aw_msk (bs : List Bool) (hL : msk bs L = L') (k : aw M X pc L' st g F) : aw M X pc L st g F := by
  intro r g' hF p l e R s m args below meth c D ad cs A cells slots Z C E H locs ls hP hS hl
  exact k r g' hF p l e R s m args below meth c D ad cs A cells slots Z C E H locs ls hP hS ⟨hl.1, hl.2.1, fun i w h => hl.2.2 i w (msk_nth bs (by rw [hL]; exact h))⟩
theorem aw_iret (h : IN M pc .ireturn 1 pc') (hr : M.2.2.2.1 = some .int) : aw M X pc L [.inl x] g (some (x, g)) := by
  intro r g' hF p l e R s m args below meth c D ad cs A cells slots Z C E H locs ls hP hS hl
  cases hF
  exact (E H locs ls pc hP hS).1 h.1 (by rw [hr]; exact fun q => by cases q) (fun q => by rw [hr] at q; cases q)
theorem aw_zret (h : IN M pc .ireturn 1 pc') (hr : M.2.2.2.1 = some .boolean) : aw M X pc L [.inl x] g (rz x g) := by
  intro r g' hF p l e R s m args below meth c D ad cs A cells slots Z C E H locs ls hP hS hl
  obtain ⟨hz, hF⟩ := rz_some hF
  cases hF
  exact (E H locs ls pc hP hS).1 h.1 (by rw [hr]; exact fun q => by cases q) (fun _ => hz)
theorem aw_zretK (h : IN M pc .ireturn 1 pc') (hr : M.2.2.2.1 = some .boolean) (hz : x = 0 ∨ x = 1) : aw M X pc L [.inl x] g (some (x, g)) := by
  intro r g' hF p l e R s m args below meth c D ad cs A cells slots Z C E H locs ls hP hS hl
  cases hF
  exact (E H locs ls pc hP hS).1 h.1 (by rw [hr]; exact fun q => by cases q) (fun _ => hz)
theorem aw_vret (h : IN M pc .return_ 1 pc') (hr : M.2.2.2.1 = none) : aw M X pc L [] g (some (0, g)) := by
  intro r g' hF p l e R s m args below meth c D ad cs A cells slots Z C E H locs ls hP hS hl
  cases hF
  exact (E H locs ls pc hP hS).2 h.1 hr rfl
theorem aw_getI {own : String} {idx ci i a : Nat} {rs : List (Option Nat)} (h : IN M pc (.getfield idx) 3 pc') (hf : FL M.1.cls idx ci i) (ha : a < 73) (hs : sh a = (0, ci, rs)) (hi : rs[i]? = some none) (k : aw M X pc' L (.inl (g a i) :: st) g F) : aw M X pc L (.inr a :: st) g F := by
  intro r g' hF p l e R s m args below meth c D ad cs A cells slots Z C E H locs ls hP hS hl
  obtain ⟨h1, rfl⟩ := h
  obtain ⟨C0, T, N, hc, hN, hin, hlk⟩ := hf
  exact va_get (v := .int (g a i)) C.1 C.2.1 C.2.2.2.2.1 hin C.2.2.2.1 C.2.2.2.2.2.1 hP a (WS_obj ha hs) hc i hN (C.2.2.2.2.1 _ hlk) (fun _ h9 => h9) (by rw [List.getElem?_mapIdx, hi]; rfl) h1 (k r g' hF p l e R s m args below meth c D ad cs A cells slots Z C E H locs ls hP hS hl)
theorem aw_getR {own : String} {idx ci i a b : Nat} {rs : List (Option Nat)} (h : IN M pc (.getfield idx) 3 pc') (hf : FL M.1.cls idx ci i) (ha : a < 73) (hs : sh a = (0, ci, rs)) (hi : rs[i]? = some (some b)) (k : aw M X pc' L (.inr b :: st) g F) : aw M X pc L (.inr a :: st) g F := by
  intro r g' hF p l e R s m args below meth c D ad cs A cells slots Z C E H locs ls hP hS hl
  obtain ⟨h1, rfl⟩ := h
  obtain ⟨C0, T, N, hc, hN, hin, hlk⟩ := hf
  exact va_get (v := .ref (ad b)) C.1 C.2.1 C.2.2.2.2.1 hin C.2.2.2.1 C.2.2.2.2.2.1 hP a (WS_obj ha hs) hc i hN (C.2.2.2.2.1 _ hlk) (fun _ h9 => h9) (by rw [List.getElem?_mapIdx, hi]; rfl) h1 (k r g' hF p l e R s m args below meth c D ad cs A cells slots Z C E H locs ls hP hS hl)
theorem aw_putI {idx ci i a : Nat} {rs : List (Option Nat)} {G : Mem → Option (Int32 × Mem)} (h : IN M pc (.putfield idx) 3 pc') (hf : FP M.1.cls idx ci i .int) (ha : a < 73) (hs : sh a = (0, ci, rs)) (hi : rs[i]? = some none) (k : ∀ g1, g1 = up g a i x → aw M X pc' L st g1 (G g1)) : aw M X pc L (.inl x :: .inr a :: st) g (pf g a i x G) := by
  intro r g' hF p l e R s m args below meth c D ad cs A cells slots Z C E H locs ls hP hS hl
  obtain ⟨h1, rfl⟩ := h
  obtain ⟨C0, T, N, ty0, hc, hN, hin, hlk, hty, hnm, hfin, hd⟩ := hf
  exact va_put (v := .int x) (ty := .int) C.1 C.2.1 C.2.2.2.2.1 hin ty0 hty hnm C.2.2.2.1 C.2.2.2.2.2.1 hP (AD_D C.2.2.2.2.2.2.1) hS a (WS_obj ha hs) hc i hN (C.2.2.2.2.1 _ hlk) (fun _ h9 => h9) hfin hd (rfl) (rfl) (by rw [List.length_mapIdx]; exact (List.getElem?_eq_some_iff.mp hi).1) h1 (fun H1 locs1 hP1 _ hS1 => k _ rfl r g' hF p l e R s m args below meth c D ad cs A cells slots Z C E H1 locs1 ls (by rw [WS_put ha hs hi] at hP1; exact hP1) hS1 hl)
theorem aw_putZ {idx ci i a : Nat} {rs : List (Option Nat)} {G : Mem → Option (Int32 × Mem)} (h : IN M pc (.putfield idx) 3 pc') (hf : FP M.1.cls idx ci i .boolean) (ha : a < 73) (hs : sh a = (0, ci, rs)) (hi : rs[i]? = some none) (k : ∀ g1, g1 = up g a i x → aw M X pc' L st g1 (G g1)) : aw M X pc L (.inl x :: .inr a :: st) g (pz g a i x G) := by
  intro r g' hF p l e R s m args below meth c D ad cs A cells slots Z C E H locs ls hP hS hl
  obtain ⟨hz, hF⟩ := rz_some' hF
  obtain ⟨h1, rfl⟩ := h
  obtain ⟨C0, T, N, ty0, hc, hN, hin, hlk, hty, hnm, hfin, hd⟩ := hf
  exact va_put (v := .int x) (ty := .boolean) C.1 C.2.1 C.2.2.2.2.1 hin ty0 hty hnm C.2.2.2.1 C.2.2.2.2.2.1 hP (AD_D C.2.2.2.2.2.2.1) hS a (WS_obj ha hs) hc i hN (C.2.2.2.2.1 _ hlk) (fun _ h9 => h9) hfin hd (nar_z hz) (fit_z hz) (by rw [List.length_mapIdx]; exact (List.getElem?_eq_some_iff.mp hi).1) h1 (fun H1 locs1 hP1 _ hS1 => k _ rfl r g' hF p l e R s m args below meth c D ad cs A cells slots Z C E H1 locs1 ls (by rw [WS_put ha hs hi] at hP1; exact hP1) hS1 hl)
theorem aw_iald {a n : Nat} {rs : List (Option Nat)} {G : Int32 → Option (Int32 × Mem)} (h : IN M pc .iaload 1 pc') (ha : a < 73) (hs : sh a = (1, n, rs)) (k : ∀ z : Int32, z = g a x.toNatClampNeg → aw M X pc' L (.inl z :: st) g (G z)) : aw M X pc L (.inl x :: .inr a :: st) g (al g a n x G) := by
  intro r g' hF p l e R s m args below meth c D ad cs A cells slots Z C E H locs ls hP hS hl
  obtain ⟨h1, rfl⟩ := h
  obtain ⟨hin, hF⟩ := al_some hF
  exact va_iald C.1 C.2.1 C.2.2.2.2.2.1 hP a 0 (WS_arr ha hs) rfl hin h1 (k _ rfl r g' hF p l e R s m args below meth c D ad cs A cells slots Z C E H locs ls hP hS hl)
theorem aw_iast {a n : Nat} {rs : List (Option Nat)} {G : Mem → Option (Int32 × Mem)} (h : IN M pc .iastore 1 pc') (ha : a < 73) (hs : sh a = (1, n, rs)) (k : ∀ g1, g1 = up g a x.toNatClampNeg v → aw M X pc' L st g1 (G g1)) : aw M X pc L (.inl v :: .inl x :: .inr a :: st) g (as_ g a n x v G) := by
  intro r g' hF p l e R s m args below meth c D ad cs A cells slots Z C E H locs ls hP hS hl
  obtain ⟨h1, rfl⟩ := h
  obtain ⟨hin, hF⟩ := as_some hF
  exact va_iast C.1 C.2.1 C.2.2.2.2.2.1 hP (AD_D C.2.2.2.2.2.2.1) hS a 0 (WS_arr ha hs) rfl hin h1 (fun H1 locs1 hP1 _ hS1 => k _ rfl r g' hF p l e R s m args below meth c D ad cs A cells slots Z C E H1 locs1 ls (by rw [WS_ast ha hs] at hP1; exact hP1) hS1 hl)
theorem aw_zald {a n : Nat} {rs : List (Option Nat)} {G : Int32 → Option (Int32 × Mem)} (h : IN M pc .baload 1 pc') (ha : a < 73) (hs : sh a = (2, n, rs)) (k : ∀ z : Int32, z = g a x.toNatClampNeg → aw M X pc' L (.inl z :: st) g (G z)) : aw M X pc L (.inl x :: .inr a :: st) g (al g a n x G) := by
  intro r g' hF p l e R s m args below meth c D ad cs A cells slots Z C E H locs ls hP hS hl
  obtain ⟨h1, rfl⟩ := h
  obtain ⟨hin, hF⟩ := al_some hF
  exact va_zald C.1 C.2.1 C.2.2.2.2.2.1 hP a 1 (WS_arz ha hs) rfl hin h1 (k _ rfl r g' hF p l e R s m args below meth c D ad cs A cells slots Z C E H locs ls hP hS hl)
theorem aw_zast {a n : Nat} {rs : List (Option Nat)} {G : Mem → Option (Int32 × Mem)} (h : IN M pc .bastore 1 pc') (ha : a < 73) (hs : sh a = (2, n, rs)) (hv : vp_nar .boolean v = v) (k : ∀ g1, g1 = up g a x.toNatClampNeg v → aw M X pc' L st g1 (G g1)) : aw M X pc L (.inl v :: .inl x :: .inr a :: st) g (as_ g a n x v G) := by
  intro r g' hF p l e R s m args below meth c D ad cs A cells slots Z C E H locs ls hP hS hl
  obtain ⟨h1, rfl⟩ := h
  obtain ⟨hin, hF⟩ := as_some hF
  exact va_zast C.1 C.2.1 C.2.2.2.2.2.1 hP (AD_D C.2.2.2.2.2.2.1) hS a 1 (WS_arz ha hs) rfl hin h1 (fun H1 locs1 hP1 _ hS1 => k _ rfl r g' hF p l e R s m args below meth c D ad cs A cells slots Z C E H1 locs1 ls (by rw [hv, WS_asz ha hs] at hP1; exact hP1) hS1 hl)
theorem aw_alen {a n : Nat} {rs : List (Option Nat)} (h : IN M pc .arraylength 1 pc') (ha : a < 73) (hs : sh a = (1, n, rs)) (hv : Int32.ofNat n = v) (k : aw M X pc' L (.inl v :: st) g F) : aw M X pc L (.inr a :: st) g F := by
  intro r g' hF p l e R s m args below meth c D ad cs A cells slots Z C E H locs ls hP hS hl
  obtain ⟨h1, rfl⟩ := h
  exact va_alen C.1 C.2.1 C.2.2.2.2.2.1 hP a 0 (WS_arr ha hs) rfl hv h1 (k r g' hF p l e R s m args below meth c D ad cs A cells slots Z C E H locs ls hP hS hl)
theorem aw_aald {a b0 b1 : Nat} {F1 F2 : Option (Int32 × Mem)} (h : IN M pc .aaload 1 pc') (ha : a < 73) (hs : sh a = (3, 2, [some b0, some b1])) (k0 : aw M X pc' L (.inr b0 :: st) g F1) (k1 : aw M X pc' L (.inr b1 :: st) g F2) : aw M X pc L (.inl x :: .inr a :: st) g (r2 x F1 F2) := by
  intro r g' hF p l e R s m args below meth c D ad cs A cells slots Z C E H locs ls hP hS hl
  obtain ⟨h1, rfl⟩ := h
  rcases r2_some hF with ⟨rfl, hF⟩ | ⟨rfl, hF⟩
  · exact va_aldq C.1 C.2.1 C.2.2.2.2.2.1 hP a 2 (WS_arq ha hs) rfl (by unfold vp_in; decide) h1 (k0 r g' hF p l e R s m args below meth c D ad cs A cells slots Z C E H locs ls hP hS hl)
  · exact va_aldq C.1 C.2.1 C.2.2.2.2.2.1 hP a 2 (WS_arq ha hs) rfl (by unfold vp_in; decide) h1 (k1 r g' hF p l e R s m args below meth c D ad cs A cells slots Z C E H locs ls hP hS hl)
theorem aw_sld {n : Nat} {f : Nat → Int32} {G : Int32 → Option (Int32 × Mem)} (h : IN M pc .iaload 1 pc') (hX : X = some (n, f)) (k : ∀ z : Int32, z = f x.toNatClampNeg → aw M X pc' L (.inl z :: st) g (G z)) : aw M X pc L (.inl x :: .inr 73 :: st) g (sl f n x G) := by
  intro r g' hF p l e R s m args below meth c D ad cs A cells slots Z C E H locs ls hP hS hl
  obtain ⟨h1, rfl⟩ := h
  obtain ⟨hin, hF⟩ := sl_some hF
  obtain ⟨q1, q2, q3⟩ := C.2.2.2.2.2.2.2.2.2 _ hX
  exact va_sld C.1 C.2.1 q1 q2 q3 hS hin h1 (k _ rfl r g' hF p l e R s m args below meth c D ad cs A cells slots Z C E H locs ls hP hS hl)
theorem aw_slen {n : Nat} {f : Nat → Int32} (h : IN M pc .arraylength 1 pc') (hX : X = some (n, f)) (k : aw M X pc' L (.inl (Int32.ofNat n) :: st) g F) : aw M X pc L (.inr 73 :: st) g F := by
  intro r g' hF p l e R s m args below meth c D ad cs A cells slots Z C E H locs ls hP hS hl
  obtain ⟨h1, rfl⟩ := h
  obtain ⟨q1, q2, q3⟩ := C.2.2.2.2.2.2.2.2.2 _ hX
  exact va_slen C.1 C.2.1 q1 q2 q3 hS h1 (k r g' hF p l e R s m args below meth c D ad cs A cells slots Z C E H locs ls hP hS hl)
theorem aw_mmax {idx : Nat} (h : IN M pc (.invokestatic idx) 3 pc') (hm : MMx Lib.Math.max.name Lib.Math.max.code M.1.cls idx) (hr : 1 ≤ M.2.2.2.2.1 ∧ st.length + 13 ≤ M.2.2.2.2.2) (k : aw M X pc' L (.inl (mx x y) :: st) g F) : aw M X pc L (.inl y :: .inl x :: st) g F := by
  intro r g' hF p l e R s m args below meth c D ad cs A cells slots Z C E H locs ls hP hS hl
  obtain ⟨h1, rfl⟩ := h
  obtain ⟨m1, m2, m3, m4⟩ := hm
  obtain ⟨-, -, hml, hown, hts, -, -, -, ⟨r1, r2, r3, r4⟩, -⟩ := id C
  exact va_mmax C.1 C.2.1 (hml.trans hl.1.symm) hown (hts _ m1) (hts _ m2) (hts _ m3) (hts _ m4) (by rw [r1]; exact hr.1) (by rw [r2, cat_sum]; exact hr.2) r3 r4 h1 (k r g' hF p l e R s m args below meth c D ad cs A cells slots Z C E H locs ls hP hS hl)
theorem aw_mmin {idx : Nat} (h : IN M pc (.invokestatic idx) 3 pc') (hm : MMx Lib.Math.min.name Lib.Math.min.code M.1.cls idx) (hr : 1 ≤ M.2.2.2.2.1 ∧ st.length + 13 ≤ M.2.2.2.2.2) (k : aw M X pc' L (.inl (mn x y) :: st) g F) : aw M X pc L (.inl y :: .inl x :: st) g F := by
  intro r g' hF p l e R s m args below meth c D ad cs A cells slots Z C E H locs ls hP hS hl
  obtain ⟨h1, rfl⟩ := h
  obtain ⟨m1, m2, m3, m4⟩ := hm
  obtain ⟨-, -, hml, hown, hts, -, -, -, ⟨r1, r2, r3, r4⟩, -⟩ := id C
  exact va_mmin C.1 C.2.1 (hml.trans hl.1.symm) hown (hts _ m1) (hts _ m2) (hts _ m3) (hts _ m4) (by rw [r1]; exact hr.1) (by rw [r2, cat_sum]; exact hr.2) r3 r4 h1 (k r g' hF p l e R s m args below meth c D ad cs A cells slots Z C E H locs ls hP hS hl)
theorem aw_acopy {idx a b n0 n1 : Nat} {rs rs' : List (Option Nat)} {sp dp n : Int32} {G : Mem → Option (Int32 × Mem)} (h : IN M pc (.invokestatic idx) 3 pc') (hm : MAc M.1.cls idx) (hr : 1 ≤ M.2.2.2.2.1 ∧ st.length + (nativeFrameWords "java/lang/System" "arraycopy" 5 + 11) ≤ M.2.2.2.2.2) (ha : a < 73) (hs : sh a = (1, n0, rs)) (hb : b < 73) (hsb : sh b = (1, n1, rs')) (k : ∀ g1, g1 = cpy g a sp.toNatClampNeg b dp.toNatClampNeg n.toNatClampNeg → aw M X pc' L st g1 (G g1)) : aw M X pc L (.inl n :: .inl dp :: .inr b :: .inl sp :: .inr a :: st) g (ac g a n0 sp b n1 dp n G) := by
  intro r g' hF p l e R s m args below meth c D ad cs A cells slots Z C E H locs ls hP hS hl
  obtain ⟨h1, rfl⟩ := h
  obtain ⟨⟨u1, u2, u3, u4, u5⟩, hF⟩ := ac_some hF
  obtain ⟨m1, m2, m3, m4⟩ := hm
  obtain ⟨-, -, hml, hown, hts, -, -, -, ⟨r1, r2, r3, r4⟩, -⟩ := id C
  exact va_copyi C.1 C.2.1 (hml.trans hl.1.symm) hown (hts _ m1) (hts _ m2) (hts _ m3) (hts _ m4) C.2.2.2.2.2.1 hP (AD_D C.2.2.2.2.2.2.1) hS a b 0 0 (WS_arr ha hs) (WS_arr hb hsb) rfl rfl rfl u1 u2 u3 u4 u5 (fun _ _ => rfl) (by rw [r1]; exact hr.1) (by rw [r2, cat_sum]; exact hr.2) h1 (fun H1 locs1 hP1 _ hS1 => k _ rfl r g' hF p l e R s m args below meth c D ad cs A cells slots Z C E H1 locs1 ls (by rw [WS_cpy hb hsb] at hP1; exact hP1) hS1 hl)
theorem call_pre {D : va_G} {ad : Nat → Nat} {cs : Nat → ClassId} {g : Mem} {sz : Nat} {av : List Value} : FrameBlind (va_Pc av (fun U => U.heap.size = sz ∧ va_P D vwCl (WS ad cs g) U.heap ∧ va_K D vwCl (TY cs) U ∧ AD (fun _ => True) ad)) := by
  intro a U gg mk q
  obtain ⟨q0, q1, qP, qK, qD⟩ := q
  exact ⟨q0, q1, qP, va_K.moved (u := U) (U := U.calling gg mk a) (Vm.Alike.refl U.vm) qK, qD⟩
theorem AD_true {A : Nat → Prop} {ad : Nat → Nat} (h : AD A ad) : AD (fun _ => True) ad := ⟨h.1, fun _ _ => trivial⟩
theorem aw_callV {idx n a : Nat} {As : List AV} {Fc : Option (Int32 × Mem)} {K : Int32 → Mem → Option (Int32 × Mem)} {ty : FieldType} (h : IN M pc (.invokevirtual idx) 3 pc') (hlk : Cond.methodLink M.1.cls idx M'.1 ∈ TW) (hm : MC M' n) (hv : MV M') (hty : M'.2.2.2.1 = some ty) (hk : RC a M'.1.cls) (hC : CT M' (.inr a :: As) g Fc) (hn : As.length = n) (hst : st.length ≤ 8) (hroom : M'.2.2.2.2.1 + 1 ≤ M.2.2.2.2.1 ∧ 8 + (M'.2.2.1 + 11) + M'.2.2.2.2.2 ≤ M.2.2.2.2.2) (k : ∀ (z : Int32) (g1 : Mem), aw M X pc' L (.inl z :: st) g1 (K z g1)) : aw M X pc L (pu As (.inr a :: st)) g (cl Fc K) := by
  intro r g' hF p l e R s m args below meth c D ad cs A cells slots Z C E H locs ls hP hS hl
  obtain ⟨h1, rfl⟩ := h
  obtain ⟨r1, g1, hc, hF⟩ := cl_some hF
  have hM := hC r1 g1 hc l D ad cs H.size
  obtain ⟨hx, hb, hml, hown, hts, hK, hAD, hA, ⟨R1, R2, R3, R4⟩, -⟩ := id C
  obtain ⟨c1, c2, c3, c4, c5⟩ := hm
  obtain ⟨k1, ci, rs, T, N, k2, k3⟩ := hk
  rw [hty] at hM
  have hG : GoodIn TW (wsV M.1.cls idx M'.1.cls M'.1 (Cond.code M'.1 M'.2.1 M'.2.2.1 (some ty) :: TW)) := lw_goodIn (fun _ h => h) _ (by
    intro w hw
    rw [hty] at c1
    simp only [wsV, List.mem_append, List.mem_cons, List.not_mem_nil, or_false] at hw
    rcases hw with (rfl | rfl | rfl | rfl) | rfl | hw
    · exact hlk
    · exact hv.1
    · exact hv.2
    · exact c2
    · exact c1
    · exact hw)
  rw [pu_map]
  refine va_calli (va_runV (As := As.map (cv ad)) (rest := st.map (cv ad)) ⟨hx, hb, hml, hown, hts⟩ hM (cwV n hts hG rfl rfl rfl ⟨rfl, c3, c4, c5⟩ ⟨by rw [R1]; exact hroom.1, by rw [R2]; exact hroom.2⟩) ⟨call_pre, va_recv hK hP k3 (WS_obj k1 k2), fun U hU hW => ⟨rfl, by rw [hU], by rw [hU]; exact hP, va_K.moved hW.alike hK, AD_true hAD⟩⟩ rfl (by rw [List.length_map]; exact hn) hl.1 rfl (lv_room (by rw [cat_sum]; exact hst)) h1 ⟨R3, R4⟩) hS (fun q _ h => AD_A hAD hS hA q h) (AD_A hAD hS hA) (fun r2 u t H1 locs1 ht hvm hw hB hz1 hk1 hS1 => ?_)
  subst hw
  rw [ht] at hB
  exact k r2 g1 r g' hF p l e R s m args below meth c D ad cs A cells slots Z C E H1 locs1 ls hB hS1 hl
theorem aw_callVv {idx n a : Nat} {As : List AV} {Fc : Option (Int32 × Mem)} {K : Int32 → Mem → Option (Int32 × Mem)} (h : IN M pc (.invokevirtual idx) 3 pc') (hlk : Cond.methodLink M.1.cls idx M'.1 ∈ TW) (hm : MC M' n) (hv : MV M') (hty : M'.2.2.2.1 = none) (hk : RC a M'.1.cls) (hC : CT M' (.inr a :: As) g Fc) (hn : As.length = n) (hst : st.length ≤ 8) (hroom : M'.2.2.2.2.1 + 1 ≤ M.2.2.2.2.1 ∧ 8 + (M'.2.2.1 + 11) + M'.2.2.2.2.2 ≤ M.2.2.2.2.2) (k : ∀ (z : Int32) (g1 : Mem), aw M X pc' L st g1 (K z g1)) : aw M X pc L (pu As (.inr a :: st)) g (cl Fc K) := by
  intro r g' hF p l e R s m args below meth c D ad cs A cells slots Z C E H locs ls hP hS hl
  obtain ⟨h1, rfl⟩ := h
  obtain ⟨r1, g1, hc, hF⟩ := cl_some hF
  have hM := hC r1 g1 hc l D ad cs H.size
  obtain ⟨hx, hb, hml, hown, hts, hK, hAD, hA, ⟨R1, R2, R3, R4⟩, -⟩ := id C
  obtain ⟨c1, c2, c3, c4, c5⟩ := hm
  obtain ⟨k1, ci, rs, T, N, k2, k3⟩ := hk
  rw [hty] at hM
  have hG : GoodIn TW (wsV M.1.cls idx M'.1.cls M'.1 (Cond.code M'.1 M'.2.1 M'.2.2.1 none :: TW)) := lw_goodIn (fun _ h => h) _ (by
    intro w hw
    rw [hty] at c1
    simp only [wsV, List.mem_append, List.mem_cons, List.not_mem_nil, or_false] at hw
    rcases hw with (rfl | rfl | rfl | rfl) | rfl | hw
    · exact hlk
    · exact hv.1
    · exact hv.2
    · exact c2
    · exact c1
    · exact hw)
  rw [pu_map]
  refine va_callv (va_runV (As := As.map (cv ad)) (rest := st.map (cv ad)) ⟨hx, hb, hml, hown, hts⟩ hM (cwV n hts hG rfl rfl rfl ⟨rfl, c3, c4, c5⟩ ⟨by rw [R1]; exact hroom.1, by rw [R2]; exact hroom.2⟩) ⟨call_pre, va_recv hK hP k3 (WS_obj k1 k2), fun U hU hW => ⟨rfl, by rw [hU], by rw [hU]; exact hP, va_K.moved hW.alike hK, AD_true hAD⟩⟩ rfl (by rw [List.length_map]; exact hn) hl.1 rfl (lv_room (by rw [cat_sum]; exact hst)) h1 ⟨R3, R4⟩) hS (fun q _ h => AD_A hAD hS hA q h) (AD_A hAD hS hA) (fun u t H1 locs1 ht hvm hw hB hz1 hk1 hS1 => ?_)
  rw [ht] at hB
  exact k r1 g1 r g' hF p l e R s m args below meth c D ad cs A cells slots Z C E H1 locs1 ls hB hS1 hl
theorem aw_callS {idx n : Nat} {As : List AV} {Fc : Option (Int32 × Mem)} {K : Int32 → Mem → Option (Int32 × Mem)} {ty : FieldType} (h : IN M pc (.invokestatic idx) 3 pc') (hlk : Cond.methodLink M.1.cls idx M'.1 ∈ TW) (hm : MC M' n) (hv : Cond.static M'.1 ∈ TW) (hty : M'.2.2.2.1 = some ty) (hC : CT M' As g Fc) (hn : As.length = n) (hst : st.length ≤ 8) (hroom : M'.2.2.2.2.1 + 1 ≤ M.2.2.2.2.1 ∧ 8 + (M'.2.2.1 + 11) + M'.2.2.2.2.2 ≤ M.2.2.2.2.2) (k : ∀ (z : Int32) (g1 : Mem), aw M X pc' L (.inl z :: st) g1 (K z g1)) : aw M X pc L (pu As st) g (cl Fc K) := by
  intro r g' hF p l e R s m args below meth c D ad cs A cells slots Z C E H locs ls hP hS hl
  obtain ⟨h1, rfl⟩ := h
  obtain ⟨r1, g1, hc, hF⟩ := cl_some hF
  have hM := hC r1 g1 hc l D ad cs H.size
  obtain ⟨hx, hb, hml, hown, hts, hK, hAD, hA, ⟨R1, R2, R3, R4⟩, -⟩ := id C
  obtain ⟨c1, c2, c3, c4, c5⟩ := hm
  rw [hty] at hM
  have hG : GoodIn TW (va_wsS M.1.cls idx M'.1 (Cond.code M'.1 M'.2.1 M'.2.2.1 (some ty) :: TW)) := lw_goodIn (fun _ h => h) _ (by
    intro w hw
    rw [hty] at c1
    simp only [va_wsS, List.mem_append, List.mem_cons, List.not_mem_nil, or_false] at hw
    rcases hw with (rfl | rfl | rfl) | rfl | hw
    · exact hlk
    · exact hv
    · exact c2
    · exact c1
    · exact hw)
  rw [pu_map]
  refine va_calli (va_runS (As := As.map (cv ad)) (rest := st.map (cv ad)) ⟨hx, hb, hml, hown, hts⟩ hM (va_cwS n hts hG rfl rfl rfl ⟨c3, c4, c5⟩ ⟨by rw [R1]; exact hroom.1, by rw [R2]; exact hroom.2⟩) ⟨call_pre, fun U hU hW => ⟨rfl, by rw [hU], by rw [hU]; exact hP, va_K.moved hW.alike hK, AD_true hAD⟩⟩ rfl (by rw [List.length_map]; exact hn) hl.1 rfl (lv_room (by rw [cat_sum]; exact hst)) h1 ⟨R3, R4⟩) hS (fun q _ h => AD_A hAD hS hA q h) (AD_A hAD hS hA) (fun r2 u t H1 locs1 ht hvm hw hB hz1 hk1 hS1 => ?_)
  subst hw
  rw [ht] at hB
  exact k r2 g1 r g' hF p l e R s m args below meth c D ad cs A cells slots Z C E H1 locs1 ls hB hS1 hl
theorem aw_callSv {idx n : Nat} {As : List AV} {Fc : Option (Int32 × Mem)} {K : Int32 → Mem → Option (Int32 × Mem)} (h : IN M pc (.invokestatic idx) 3 pc') (hlk : Cond.methodLink M.1.cls idx M'.1 ∈ TW) (hm : MC M' n) (hv : Cond.static M'.1 ∈ TW) (hty : M'.2.2.2.1 = none) (hC : CT M' As g Fc) (hn : As.length = n) (hst : st.length ≤ 8) (hroom : M'.2.2.2.2.1 + 1 ≤ M.2.2.2.2.1 ∧ 8 + (M'.2.2.1 + 11) + M'.2.2.2.2.2 ≤ M.2.2.2.2.2) (k : ∀ (z : Int32) (g1 : Mem), aw M X pc' L st g1 (K z g1)) : aw M X pc L (pu As st) g (cl Fc K) := by
  intro r g' hF p l e R s m args below meth c D ad cs A cells slots Z C E H locs ls hP hS hl
  obtain ⟨h1, rfl⟩ := h
  obtain ⟨r1, g1, hc, hF⟩ := cl_some hF
  have hM := hC r1 g1 hc l D ad cs H.size
  obtain ⟨hx, hb, hml, hown, hts, hK, hAD, hA, ⟨R1, R2, R3, R4⟩, -⟩ := id C
  obtain ⟨c1, c2, c3, c4, c5⟩ := hm
  rw [hty] at hM
  have hG : GoodIn TW (va_wsS M.1.cls idx M'.1 (Cond.code M'.1 M'.2.1 M'.2.2.1 none :: TW)) := lw_goodIn (fun _ h => h) _ (by
    intro w hw
    rw [hty] at c1
    simp only [va_wsS, List.mem_append, List.mem_cons, List.not_mem_nil, or_false] at hw
    rcases hw with (rfl | rfl | rfl) | rfl | hw
    · exact hlk
    · exact hv
    · exact c2
    · exact c1
    · exact hw)
  rw [pu_map]
  refine va_callv (va_runS (As := As.map (cv ad)) (rest := st.map (cv ad)) ⟨hx, hb, hml, hown, hts⟩ hM (va_cwS n hts hG rfl rfl rfl ⟨c3, c4, c5⟩ ⟨by rw [R1]; exact hroom.1, by rw [R2]; exact hroom.2⟩) ⟨call_pre, fun U hU hW => ⟨rfl, by rw [hU], by rw [hU]; exact hP, va_K.moved hW.alike hK, AD_true hAD⟩⟩ rfl (by rw [List.length_map]; exact hn) hl.1 rfl (lv_room (by rw [cat_sum]; exact hst)) h1 ⟨R3, R4⟩) hS (fun q _ h => AD_A hAD hS hA q h) (AD_A hAD hS hA) (fun u t H1 locs1 ht hvm hw hB hz1 hk1 hS1 => ?_)
  rw [ht] at hB
  exact k r1 g1 r g' hF p l e R s m args below meth c D ad cs A cells slots Z C E H1 locs1 ls hB hS1 hl
/-- a walk from the entry gives the contract -/
def lsl : List AV → Nat → List (Option AV)
  | as, 0 => as.map some
  | as, n => as.map some ++ List.replicate (n - as.length) none
theorem nth_args {As : List AV} {k : Nat} {w : AV} {n : Nat} (h : nth (As.map some ++ List.replicate n none) k = some w) : As[k]? = some w := by
  induction As generalizing k with
  | nil =>
    exfalso
    induction n generalizing k with
    | zero => cases h
    | succ n ih => cases k with
      | zero => cases h
      | succ k => exact ih h
  | cons a t ih =>
    cases k with
    | zero => exact h
    | succ k => simpa using ih h
theorem args_at (ad : Nat → Nat) (As : List AV) : ∀ (j k : Nat) (w : AV), As[k]? = some w → (j + k, cv ad w) ∈ lv_args j (As.map (cv ad)) := by
  induction As with
  | nil => intro j k w h; cases k <;> cases h
  | cons a t ih =>
    intro j k w h
    have hc : lv_args j ((a :: t).map (cv ad)) = (j, cv ad a) :: lv_args (j + 1) (t.map (cv ad)) := by
      cases a <;> rfl
    rw [hc]
    cases k with
    | zero => cases h; exact List.mem_cons_self
    | succ k =>
      refine List.mem_cons_of_mem _ ?_
      have := ih (j + 1) k w (by simpa using h)
      rw [show j + (k + 1) = j + 1 + k by omega]
      exact this
theorem sl_len (ad : Nat → Nat) (As : List AV) : (lg_sl (As.map (cv ad))).length = As.length := by
  induction As with
  | nil => rfl
  | cons a t ih =>
    have hc : lg_sl ((a :: t).map (cv ad)) = Slot.val (cv ad a) :: lg_sl (t.map (cv ad)) := by cases a <;> rfl
    rw [hc, List.length_cons, ih, List.length_cons]
theorem CT.of {As : List AV} {nr : Nat} (hy : plainName M.1.cls = true) (hnL : As.length ≤ M.2.2.1) (hret : M.2.2.2.1 = none ∨ M.2.2.2.1 = some .int ∨ M.2.2.2.1 = some .boolean) (k : aw M none 0 (As.map some ++ List.replicate nr none) [] g F) : CT M As g F := by
  intro r g' hF l D ad cs sz
  refine Met.ofW (cc := M.2.1) (maxL := M.2.2.1) (ret := M.2.2.2.1) hy rfl ?_
  intro p e s m args below meth c s₁ B hml hv
  obtain ⟨rfl, hsz, hP, hK, hD0⟩ := hv
  have hx := B.exec
  have hb := B.bytes
  have hr := B.returns
  have hts := atoms_spec (ws := Cond.code M.1 M.2.1 M.2.2.1 M.2.2.2.1 :: TW) B.pre
  have hown : s.vm.findClass M.1.cls = some m.cls := findClass_of_methodNamed B.named
  have hlocks := B.notSynchronized
  subst hsz
  have hAD : AD (va_A (WS ad cs g) s.heap.size) ad := ⟨hD0.1, fun q h => Or.inl ⟨q, _, WS_get h⟩⟩
  have hl := lv_entry (As.map (cv ad)) (n := M.2.2.1) (by rw [sl_len]; exact hnL)
  rw [lg_entry_eq]
  generalize (lg_sl (As.map (cv ad)) ++ List.replicate (M.2.2.1 - (lg_sl (As.map (cv ad))).length) Slot.unset).toArray = ls at hl ⊢
  have C : CX M none p (headSpec (Cond.code M.1 M.2.1 M.2.2.1 M.2.2.2.1 :: TW) { frames := M.2.2.2.2.1, cells := 0, slots := 0, locals := M.2.2.2.2.2 }).room s m (As.map (cv ad)).toArray c D ad cs (va_A (WS ad cs g) s.heap.size) 0 0 :=
    ⟨hx, hb, hml, hown, fun w h => hts w (List.mem_cons_of_mem _ h), hK, hAD, fun q h => Or.inr h, ⟨rfl, rfl, Nat.le_refl 0, Nat.le_refl 0⟩, fun q h => by cases h⟩
  refine k r g' hF p l e _ s m _ below meth c D ad cs _ 0 0 _ C ?_ s.heap [] ls hP va_S.rf ⟨hl.1, hl.2.1, fun i w hw => ?_⟩
  · intro H locs ls2 pc2 hP2 hS2
    refine ⟨fun hd hn hz => ?_, fun hd hn hr0 => ?_⟩
    · rcases hret with h0 | h0 | h0
      · exact absurd h0 hn
      · rw [h0]
        exact W.iret hx hb (by rw [hr, h0]) (fun t ht hW => ⟨⟨r, (), rfl, rfl, by show va_P D vwCl (WS ad cs g') t.heap; rw [ht]; exact hP2⟩, hS2.F ht⟩) hS2.2.2 hd hlocks
      · rw [h0]
        exact W.zret (ty := .boolean) hx hb (by rw [hr, h0]) (nar_z (hz h0)) (fun t ht hW => ⟨⟨r, (), rfl, rfl, by show va_P D vwCl (WS ad cs g') t.heap; rw [ht]; exact hP2⟩, hS2.F ht⟩) hS2.2.2 hd hlocks
    · rw [hn]
      exact W.vret hx hb (by rw [hr, hn]) (fun t ht hW => ⟨⟨(), rfl, hr0, by show va_P D vwCl (WS ad cs g') t.heap; rw [ht]; exact hP2⟩, hS2.F ht⟩) hS2.2.2 hd hlocks
  · have := args_at ad As 0 i w (nth_args hw)
    rw [Nat.zero_add] at this
    exact hl.2.2 _ this
def TS (M : MT) (pc : Nat) (v : Int32) (tgt : Nat) : Prop := ∃ (d lo hi : Int) (offs : Array Int) (len : Nat) (off : Int), decode M.2.1 pc = .ok (.tableswitch d lo hi offs, len) ∧ ¬ v.toInt < lo ∧ ¬ hi < v.toInt ∧ offs[(v.toInt - lo).toNat]? = some off ∧ (pc : Int) + off = (tgt : Int)
def TD (M : MT) (pc : Nat) (lo hi : Int) (tgt : Nat) : Prop := ∃ (d : Int) (offs : Array Int) (len : Nat), decode M.2.1 pc = .ok (.tableswitch d lo hi offs, len) ∧ (pc : Int) + d = (tgt : Int)
theorem aw_tsw (h : TS M pc v tgt) (hx : x = v) (k : aw M X tgt L st g F) : aw M X pc L (.inl x :: st) g F := by
  intro r g' hF p l e R s m args below meth c D ad cs A cells slots Z C E H locs ls hP hS hl
  obtain ⟨d, lo, hi, offs, len, off, h1, h2, h3, h4, h5⟩ := h
  subst hx
  exact lv_tableIn C.1 C.2.1 h1 h2 h3 h4 h5 (k r g' hF p l e R s m args below meth c D ad cs A cells slots Z C E H locs ls hP hS hl)
theorem aw_tsd {lo hi : Int} (h : TD M pc lo hi tgt) (hx : x.toInt < lo ∨ hi < x.toInt) (k : aw M X tgt L st g F) : aw M X pc L (.inl x :: st) g F := by
  intro r g' hF p l e R s m args below meth c D ad cs A cells slots Z C E H locs ls hP hS hl
  obtain ⟨d, offs, len, h1, h2⟩ := h
  exact lv_tableOut C.1 C.2.1 h1 hx h2 (k r g' hF p l e R s m args below meth c D ad cs A cells slots Z C E H locs ls hP hS hl)
theorem aw_lsw {d off : Int} {ps : Array (Int × Int)} {len : Nat} (h : decode M.2.1 pc = .ok (.lookupswitch d ps, len)) (hp : (ps.toList.zip (ps.toList.drop 1)).all (fun (a, next) => a.1 < next.1) = true) (ho : Op.lookupswitch.offset ps.toList d x.toInt = off) (ht : (pc : Int) + off = (tgt : Int)) (k : aw M X tgt L st g F) : aw M X pc L (.inl x :: st) g F := by
  intro r g' hF p l e R s m args below meth c D ad cs A cells slots Z C E H locs ls hP hS hl
  exact lv_lookup C.1 C.2.1 h hp ho ht (k r g' hF p l e R s m args below meth c D ad cs A cells slots Z C E H locs ls hP hS hl)
theorem ne_toInt {x v : Int32} {a : Int} (h : ¬ x = v) (hv : v.toInt = a) : x.toInt ≠ a := fun q => h (Int32.toInt_inj.mp (by rw [hv]; exact q))
end AWS
end
section
/-! printed by own program dec.py: the methods, and the functions that their bytecode computes -/
def FU : Nat := 60000
def mX0_forget : MT := (yX0_forget, cX0_forget, 1, none, 0, 0)
def mX0_keep : MT := (yX0_keep, cX0_keep, 3, none, 1, 21)
def mX0_takeBack : MT := (yX0_takeBack, cX0_takeBack, 3, none, 0, 0)
def mX1_left : MT := (yX1_left, cX1_left, 2, some .int, 0, 0)
def mX2_isOfKind : MT := (yX2_isOfKind, cX2_isOfKind, 2, some .boolean, 0, 0)
def mX1_leave : MT := (yX1_leave, cX1_leave, 2, none, 0, 0)
def mJ6_bitCount_0f7a4 : MT := (yJ6_bitCount_0f7a4, cJ6_bitCount_0f7a4, 1, some .int, 0, 0)
def mX1_sizeOfAll : MT := (yX1_sizeOfAll, cX1_sizeOfAll, 3, some .int, 1, 21)
def mX1_markOfAll : MT := (yX1_markOfAll, cX1_markOfAll, 2, some .int, 1, 21)
def mX1_markOfPlain : MT := (yX1_markOfPlain, cX1_markOfPlain, 6, some .int, 2, 42)
def mX1_sizeOfPlain : MT := (yX1_sizeOfPlain, cX1_sizeOfPlain, 6, some .int, 3, 67)
def mX1_sizeOfLying : MT := (yX1_sizeOfLying, cX1_sizeOfLying, 5, some .int, 2, 43)
def mX1_markOfLying : MT := (yX1_markOfLying, cX1_markOfLying, 4, some .int, 3, 67)
def mX1_begin : MT := (yX1_begin, cX1_begin, 5, some .int, 4, 92)
def mX2_sortOf : MT := (yX2_sortOf, cX2_sortOf, 1, some .int, 0, 0)
def mX2_isSort : MT := (yX2_isSort, cX2_isSort, 1, some .boolean, 0, 0)
def mX2_fits : MT := (yX2_fits, cX2_fits, 6, some .boolean, 1, 20)
def mX2_least : MT := (yX2_least, cX2_least, 2, some .int, 1, 20)
def mJ7_fill_53178 : MT := (yJ7_fill_53178, cJ7_fill_53178, 4, none, 0, 0)
def mX2_clear : MT := (yX2_clear, cX2_clear, 1, none, 1, 23)
def mX2_become : MT := (yX2_become, cX2_become, 2, none, 1, 26)
def mX2_allThings : MT := (yX2_allThings, cX2_allThings, 1, some .int, 0, 0)
def mX2_thingsFitting : MT := (yX2_thingsFitting, cX2_thingsFitting, 6, some .int, 2, 45)
def mX2_answer : MT := (yX2_answer, cX2_answer, 2, some .int, 2, 41)
def mX2_heSays : MT := (yX2_heSays, cX2_heSays, 3, some .int, 2, 41)
def mX2_sheSays : MT := (yX2_sheSays, cX2_sheSays, 2, some .int, 2, 41)
def mX2_isKnown : MT := (yX2_isKnown, cX2_isKnown, 3, some .boolean, 0, 0)
def mX2_wasUsed : MT := (yX2_wasUsed, cX2_wasUsed, 2, some .boolean, 0, 0)
def mX2_comes : MT := (yX2_comes, cX2_comes, 2, some .boolean, 0, 0)
def mX2_countOfFate : MT := (yX2_countOfFate, cX2_countOfFate, 4, some .int, 0, 0)
def mX2_isOneWed : MT := (yX2_isOneWed, cX2_isOneWed, 1, some .boolean, 1, 23)
def mX2_answerHer : MT := (yX2_answerHer, cX2_answerHer, 4, some .int, 3, 63)
def mX2_askHer : MT := (yX2_askHer, cX2_askHer, 4, some .int, 3, 62)
def mX2_cost : MT := (yX2_cost, cX2_cost, 4, some .int, 3, 62)
def mX2_sell : MT := (yX2_sell, cX2_sell, 4, some .int, 4, 85)
def mX2_costOfAll : MT := (yX2_costOfAll, cX2_costOfAll, 4, some .int, 4, 85)
def mX3_onlyThing : MT := (yX3_onlyThing, cX3_onlyThing, 6, some .int, 3, 70)
def mX3_riddleAgainst : MT := (yX3_riddleAgainst, cX3_riddleAgainst, 9, some .int, 4, 95)
def mX3_comingWithout : MT := (yX3_comingWithout, cX3_comingWithout, 4, some .int, 1, 22)
def mX3_hardest : MT := (yX3_hardest, cX3_hardest, 9, some .int, 4, 95)
def mX3_rowsOfUnlike : MT := (yX3_rowsOfUnlike, cX3_rowsOfUnlike, 4, some .int, 1, 21)
def mX3_likelihood : MT := (yX3_likelihood, cX3_likelihood, 10, some .int, 3, 63)
def mX3_wanted : MT := (yX3_wanted, cX3_wanted, 6, some .int, 3, 62)
def mX3_beating : MT := (yX3_beating, cX3_beating, 4, some .int, 3, 62)
def mX3_areTwoAlike : MT := (yX3_areTwoAlike, cX3_areTwoAlike, 5, some .boolean, 0, 0)
def mX3_gatherByTraits : MT := (yX3_gatherByTraits, cX3_gatherByTraits, 4, none, 1, 23)
def mX3_splits : MT := (yX3_splits, cX3_splits, 3, some .boolean, 0, 0)
def mX3_questionsBy : MT := (yX3_questionsBy, cX3_questionsBy, 3, some .int, 1, 21)
def mX3_fewestOfAll : MT := (yX3_fewestOfAll, cX3_fewestOfAll, 4, some .int, 2, 43)
def mX3_firstTrait : MT := (yX3_firstTrait, cX3_firstTrait, 3, some .int, 2, 43)
def mX3_fewestQuestions : MT := (yX3_fewestQuestions, cX3_fewestQuestions, 5, some .int, 3, 66)
def mX3_riddlesSaid : MT := (yX3_riddlesSaid, cX3_riddlesSaid, 6, some .int, 3, 63)
def mX3_timesBefore : MT := (yX3_timesBefore, cX3_timesBefore, 4, some .int, 0, 0)
def mX3_riddlesHeard : MT := (yX3_riddlesHeard, cX3_riddlesHeard, 11, some .int, 4, 88)
def mX4_isMissing : MT := (yX4_isMissing, cX4_isMissing, 2, some .boolean, 0, 0)
def mX4_areAlike : MT := (yX4_areAlike, cX4_areAlike, 3, some .boolean, 0, 0)
def mX4_hasPlaces : MT := (yX4_hasPlaces, cX4_hasPlaces, 4, some .boolean, 0, 0)
def mJ7_rangeCheck_23922 : MT := (yJ7_rangeCheck_23922, cJ7_rangeCheck_23922, 3, none, 0, 0)
def mJ7_fill_fda19 : MT := (yJ7_fill_fda19, cJ7_fill_fda19, 5, none, 1, 22)
def mX4_lay : MT := (yX4_lay, cX4_lay, 4, none, 2, 46)
def mX4_put : MT := (yX4_put, cX4_put, 5, some .int, 0, 0)
def mX4_at : MT := (yX4_at, cX4_at, 3, some .int, 0, 0)
def mX4_move : MT := (yX4_move, cX4_move, 6, none, 1, 26)
def mX4_lose : MT := (yX4_lose, cX4_lose, 2, some .int, 0, 0)
def mX4_present : MT := (yX4_present, cX4_present, 3, some .int, 0, 0)
def mX5_add : MT := (yX5_add, cX5_add, 2, some .int, 0, 0)
def mX5_clear : MT := (yX5_clear, cX5_clear, 1, none, 0, 0)
def mX5_next : MT := (yX5_next, cX5_next, 1, some .int, 0, 0)
def mX5_faulty : MT := (yX5_faulty, cX5_faulty, 2, some .boolean, 0, 0)
def mX5_takes : MT := (yX5_takes, cX5_takes, 2, some .boolean, 1, 21)
def mX5_takesNumber : MT := (yX5_takesNumber, cX5_takesNumber, 5, some .boolean, 1, 21)
def mX5_tellsLaw : MT := (yX5_tellsLaw, cX5_tellsLaw, 2, some .boolean, 2, 45)
def mX5_tellsThings : MT := (yX5_tellsThings, cX5_tellsThings, 2, some .boolean, 2, 45)
def mX5_tellsRiddle : MT := (yX5_tellsRiddle, cX5_tellsRiddle, 3, some .boolean, 3, 70)
def mX5_tellsRiddles : MT := (yX5_tellsRiddles, cX5_tellsRiddles, 2, some .boolean, 4, 92)
def mX5_tellsSuitors : MT := (yX5_tellsSuitors, cX5_tellsSuitors, 2, some .boolean, 2, 45)
def mX5_tells : MT := (yX5_tells, cX5_tells, 2, some .boolean, 5, 113)
def mX6_below : MT := (yX6_below, cX6_below, 2, some .boolean, 0, 0)
def mX6_found : MT := (yX6_found, cX6_found, 2, some .int, 0, 0)
def mX6_clean : MT := (yX6_clean, cX6_clean, 2, some .int, 0, 0)
def mX6_row : MT := (yX6_row, cX6_row, 4, some .int, 3, 69)
def mX6_set : MT := (yX6_set, cX6_set, 4, some .int, 1, 24)
def mX6_copy : MT := (yX6_copy, cX6_copy, 6, some .int, 2, 51)
def mX6_drop : MT := (yX6_drop, cX6_drop, 2, some .int, 1, 21)
def mX6_feed : MT := (yX6_feed, cX6_feed, 2, some .int, 1, 21)
def mX6_court : MT := (yX6_court, cX6_court, 2, some .int, 6, 134)
def mX6_fault : MT := (yX6_fault, cX6_fault, 1, some .int, 0, 0)
def mX6_asked : MT := (yX6_asked, cX6_asked, 3, some .int, 4, 86)
def mX6_inTurn : MT := (yX6_inTurn, cX6_inTurn, 3, some .int, 4, 85)
def mX6_buy : MT := (yX6_buy, cX6_buy, 3, some .int, 5, 108)
def mX6_undo : MT := (yX6_undo, cX6_undo, 1, some .int, 1, 22)
def mX6_thing : MT := (yX6_thing, cX6_thing, 2, some .int, 1, 21)
def mX6_riddle : MT := (yX6_riddle, cX6_riddle, 3, some .int, 3, 62)
def mX6_suitor : MT := (yX6_suitor, cX6_suitor, 3, some .int, 1, 21)
def mX6_says : MT := (yX6_says, cX6_says, 3, some .int, 3, 63)
def mX6_riddleFor : MT := (yX6_riddleFor, cX6_riddleFor, 4, some .int, 5, 123)
def mX6_hard : MT := (yX6_hard, cX6_hard, 3, some .int, 5, 123)
def mX6_chance : MT := (yX6_chance, cX6_chance, 3, some .int, 4, 92)
def mX6_toBuy : MT := (yX6_toBuy, cX6_toBuy, 4, some .int, 5, 108)
def mX6_beats : MT := (yX6_beats, cX6_beats, 1, some .int, 4, 85)
def mX6_tree : MT := (yX6_tree, cX6_tree, 3, some .int, 4, 90)
def mX6_said : MT := (yX6_said, cX6_said, 7, some .int, 5, 118)
def mX6_image : MT := (yX6_image, cX6_image, 2, some .int, 2, 47)
def mX6_restore : MT := (yX6_restore, cX6_restore, 2, some .int, 2, 47)
def mX6_kind : MT := (yX6_kind, cX6_kind, 2, some .int, 1, 21)
def mX6_as : MT := (yX6_as, cX6_as, 3, some .int, 1, 21)
def mX6_ask : MT := (yX6_ask, cX6_ask, 3, some .int, 5, 116)
def mX6_trace : MT := (yX6_trace, cX6_trace, 2, some .int, 1, 21)
def mX6_count : MT := (yX6_count, cX6_count, 2, some .int, 1, 23)
def mX6_status : MT := (yX6_status, cX6_status, 1, some .int, 0, 0)
def mX7_in : MT := (yX7_in, cX7_in, 3, some .boolean, 0, 0)
def mX7_has : MT := (yX7_has, cX7_has, 2, some .boolean, 0, 0)
def mX7_bits : MT := (yX7_bits, cX7_bits, 3, some .int, 0, 0)
def mX7_finds : MT := (yX7_finds, cX7_finds, 2, some .int, 0, 0)
def mX7_done : MT := (yX7_done, cX7_done, 2, some .int, 0, 0)
def mX7_isRow : MT := (yX7_isRow, cX7_isRow, 1, some .boolean, 1, 22)
def mX7_row : MT := (yX7_row, cX7_row, 5, some .int, 2, 42)
def mX7_set : MT := (yX7_set, cX7_set, 4, some .int, 2, 42)
def mX7_isPart : MT := (yX7_isPart, cX7_isPart, 3, some .boolean, 0, 0)
def mX7_copy : MT := (yX7_copy, cX7_copy, 9, some .int, 2, 42)
def mX7_drop : MT := (yX7_drop, cX7_drop, 2, some .int, 2, 42)
def mX7_feed : MT := (yX7_feed, cX7_feed, 2, some .int, 1, 22)
def mX7_nextToken : MT := (yX7_nextToken, cX7_nextToken, 2, none, 1, 22)
def mX7_fails : MT := (yX7_fails, cX7_fails, 2, some .boolean, 0, 0)
def mX7_isNumber : MT := (yX7_isNumber, cX7_isNumber, 2, some .boolean, 2, 43)
def mX7_isSign : MT := (yX7_isSign, cX7_isSign, 2, some .boolean, 2, 43)
def mX7_sortOf : MT := (yX7_sortOf, cX7_sortOf, 1, some .int, 0, 0)
def mX7_isLaw : MT := (yX7_isLaw, cX7_isLaw, 1, some .boolean, 3, 64)
def mX7_isThing : MT := (yX7_isThing, cX7_isThing, 1, some .boolean, 3, 64)
def mX7_isRiddle : MT := (yX7_isRiddle, cX7_isRiddle, 2, some .boolean, 3, 64)
def mX7_isSuitor : MT := (yX7_isSuitor, cX7_isSuitor, 1, some .boolean, 3, 64)
def mX7_isRead : MT := (yX7_isRead, cX7_isRead, 3, some .boolean, 4, 85)
def mX7_lay : MT := (yX7_lay, cX7_lay, 5, none, 0, 0)
def mX7_everything : MT := (yX7_everything, cX7_everything, 1, some .int, 0, 0)
def mX7_court : MT := (yX7_court, cX7_court, 2, some .int, 5, 107)
def mX7_fault : MT := (yX7_fault, cX7_fault, 1, some .int, 0, 0)
def mX7_isCourt : MT := (yX7_isCourt, cX7_isCourt, 1, some .boolean, 0, 0)
def mX7_isThingAt : MT := (yX7_isThingAt, cX7_isThingAt, 2, some .boolean, 1, 22)
def mX7_isRiddleAt : MT := (yX7_isRiddleAt, cX7_isRiddleAt, 2, some .boolean, 1, 22)
def mX7_isSuitorAt : MT := (yX7_isSuitorAt, cX7_isSuitorAt, 2, some .boolean, 1, 22)
def mX7_fits : MT := (yX7_fits, cX7_fits, 6, some .boolean, 1, 22)
def mX7_fittersOf : MT := (yX7_fittersOf, cX7_fittersOf, 6, some .int, 2, 47)
def mX7_fittersAt : MT := (yX7_fittersAt, cX7_fittersAt, 2, some .int, 3, 72)
def mX7_leastOf : MT := (yX7_leastOf, cX7_leastOf, 2, some .int, 1, 21)
def mX7_answerAt : MT := (yX7_answerAt, cX7_answerAt, 2, some .int, 4, 93)
def mX7_saysAt : MT := (yX7_saysAt, cX7_saysAt, 3, some .int, 4, 93)
def mX7_sheSaysAt : MT := (yX7_sheSaysAt, cX7_sheSaysAt, 2, some .int, 4, 93)
def mX7_isOpen : MT := (yX7_isOpen, cX7_isOpen, 2, some .boolean, 1, 21)
def mX7_isAnyWed : MT := (yX7_isAnyWed, cX7_isAnyWed, 3, some .boolean, 0, 0)
def mX7_act : MT := (yX7_act, cX7_act, 2, none, 1, 24)
def mX7_asked : MT := (yX7_asked, cX7_asked, 4, some .int, 5, 115)
def mX7_inTurn : MT := (yX7_inTurn, cX7_inTurn, 4, some .int, 5, 114)
def mX7_costOf : MT := (yX7_costOf, cX7_costOf, 4, some .int, 5, 114)
def mX7_buy : MT := (yX7_buy, cX7_buy, 4, some .int, 6, 137)
def mX7_undo : MT := (yX7_undo, cX7_undo, 1, some .int, 1, 24)
def mX7_thing : MT := (yX7_thing, cX7_thing, 2, some .int, 2, 43)
def mX7_riddle : MT := (yX7_riddle, cX7_riddle, 3, some .int, 5, 114)
def mX7_suitor : MT := (yX7_suitor, cX7_suitor, 3, some .int, 2, 43)
def mX7_says : MT := (yX7_says, cX7_says, 3, some .int, 5, 115)
def mX7_riddleFor : MT := (yX7_riddleFor, cX7_riddleFor, 11, some .int, 3, 72)
def mX7_hard : MT := (yX7_hard, cX7_hard, 11, some .int, 3, 72)
def mX7_over : MT := (yX7_over, cX7_over, 4, some .int, 0, 0)
def mX7_chance : MT := (yX7_chance, cX7_chance, 11, some .int, 5, 115)
def mX7_toBuy : MT := (yX7_toBuy, cX7_toBuy, 8, some .int, 6, 137)
def mX7_beats : MT := (yX7_beats, cX7_beats, 3, some .int, 5, 114)
def mX7_havers : MT := (yX7_havers, cX7_havers, 5, some .int, 1, 21)
def mX7_deepBy : MT := (yX7_deepBy, cX7_deepBy, 5, some .int, 2, 45)
def mX7_tree : MT := (yX7_tree, cX7_tree, 7, some .int, 3, 69)
def mX7_said : MT := (yX7_said, cX7_said, 16, some .int, 5, 115)
def mX7_image : MT := (yX7_image, cX7_image, 2, some .int, 1, 24)
def mX7_restore : MT := (yX7_restore, cX7_restore, 2, some .int, 1, 24)
def mX7_kindAt : MT := (yX7_kindAt, cX7_kindAt, 2, some .int, 0, 0)
def mX7_kind : MT := (yX7_kind, cX7_kind, 2, some .int, 2, 43)
def mX7_parentOf : MT := (yX7_parentOf, cX7_parentOf, 1, some .int, 0, 0)
def mX7_as : MT := (yX7_as, cX7_as, 5, some .int, 2, 43)
def mX7_begins : MT := (yX7_begins, cX7_begins, 2, none, 0, 0)
def mX7_markPlain : MT := (yX7_markPlain, cX7_markPlain, 2, some .int, 1, 21)
def mX7_markByKind : MT := (yX7_markByKind, cX7_markByKind, 3, some .int, 2, 42)
def mX7_sizeLying : MT := (yX7_sizeLying, cX7_sizeLying, 2, some .int, 4, 93)
def mX7_sizeOf : MT := (yX7_sizeOf, cX7_sizeOf, 4, some .int, 5, 114)
def mX7_markOf : MT := (yX7_markOf, cX7_markOf, 2, some .int, 6, 137)
def mX7_ask : MT := (yX7_ask, cX7_ask, 3, some .int, 7, 158)
def mX7_trace : MT := (yX7_trace, cX7_trace, 2, some .int, 1, 22)
def mX7_count : MT := (yX7_count, cX7_count, 5, some .int, 0, 0)
def mX7_status : MT := (yX7_status, cX7_status, 1, some .int, 0, 0)
def fX0_forget (g : Mem) : Option (Int32 × Mem) :=
  pf g 48 7 (0 : Int32) fun g1 => (some (0, g1))
def fX0_keep (a1 : Int32) (g : Mem) : Option (Int32 × Mem) :=
  as_ g 49 24 (g 48 6) a1 fun g1 => (al g1 13 4 a1 fun v2 => (as_ g1 50 24 (g1 48 6) v2 fun g3 => (al g3 15 4 a1 fun v4 => (as_ g3 51 24 (g3 48 6) v4 fun g5 => (al g5 16 4 a1 fun v6 => (as_ g5 52 24 (g5 48 6) v6 fun g7 => (as_ g7 53 24 (g7 48 6) (g7 7 15) fun g8 => (as_ g8 54 24 (g8 48 6) (g8 7 16) fun g9 => (if (24 : Int32) ≤ ((g9 48 6) + (1 : Int32)) then (pf g9 48 6 (0 : Int32) fun g10 => (pf g10 48 7 (mn ((g10 48 7) + (1 : Int32)) (24 : Int32)) fun g11 => (some (0, g11)))) else (pf g9 48 6 ((g9 48 6) + (1 : Int32)) fun g12 => (pf g12 48 7 (mn ((g12 48 7) + (1 : Int32)) (24 : Int32)) fun g13 => (some (0, g13)))))))))))))
def fX0_takeBack (g : Mem) : Option (Int32 × Mem) :=
  if (g 48 6) ≤ 0 then (pf g 48 6 (23 : Int32) fun g1 => (pf g1 48 7 ((g1 48 7) - (1 : Int32)) fun g2 => (al g2 49 24 (g2 48 6) fun v3 => (al g2 50 24 (g2 48 6) fun v4 => (as_ g2 13 4 v3 v4 fun g5 => (as_ g5 14 4 v3 (0 : Int32) fun g6 => (al g6 51 24 (g6 48 6) fun v7 => (as_ g6 15 4 v3 v7 fun g8 => (al g8 52 24 (g8 48 6) fun v9 => (as_ g8 16 4 v3 v9 fun g10 => (al g10 53 24 (g10 48 6) fun v11 => (pf g10 7 15 v11 fun g12 => (al g12 54 24 (g12 48 6) fun v13 => (pf g12 7 16 v13 fun g14 => (some (0, g14)))))))))))))))) else (pf g 48 6 ((g 48 6) - (1 : Int32)) fun g15 => (pf g15 48 7 ((g15 48 7) - (1 : Int32)) fun g16 => (al g16 49 24 (g16 48 6) fun v17 => (al g16 50 24 (g16 48 6) fun v18 => (as_ g16 13 4 v17 v18 fun g19 => (as_ g19 14 4 v17 (0 : Int32) fun g20 => (al g20 51 24 (g20 48 6) fun v21 => (as_ g20 15 4 v17 v21 fun g22 => (al g22 52 24 (g22 48 6) fun v23 => (as_ g22 16 4 v17 v23 fun g24 => (al g24 53 24 (g24 48 6) fun v25 => (pf g24 7 15 v25 fun g26 => (al g26 54 24 (g26 48 6) fun v27 => (pf g26 7 16 v27 fun g28 => (some (0, g28))))))))))))))))
def fX1_left (a0 : Int32) (g : Mem) : Option (Int32 × Mem) :=
  if a0 < 0 then (some ((-1000000 : Int32), g)) else (if (g 58 1) ≤ a0 then (some ((-1000000 : Int32), g)) else (al g 59 16 a0 fun v1 => (some (v1, g))))
def fX2_isOfKind (a0 : Int32) (a1 : Int32) (g : Mem) : Option (Int32 × Mem) :=
  if a1 = (0 : Int32) then (some ((1 : Int32), g)) else (if a1 = (1 : Int32) then (if a0 = (1 : Int32) then (some ((1 : Int32), g)) else (if a0 = (2 : Int32) then (some ((1 : Int32), g)) else (if a0 = (3 : Int32) then (some ((1 : Int32), g)) else (some ((0 : Int32), g))))) else (if a1 = (2 : Int32) then (if a0 = a1 then (some ((1 : Int32), g)) else (some ((0 : Int32), g))) else (if a1 = (3 : Int32) then (if a0 = a1 then (some ((1 : Int32), g)) else (some ((0 : Int32), g))) else (if a1 = (4 : Int32) then (if a0 = (4 : Int32) then (some ((1 : Int32), g)) else (if a0 = (5 : Int32) then (some ((1 : Int32), g)) else (some ((0 : Int32), g)))) else (if a0 = a1 then (some ((1 : Int32), g)) else (some ((0 : Int32), g)))))))
def fX1_leave (a0 : Int32) (g : Mem) : Option (Int32 × Mem) :=
  if (16 : Int32) ≤ (g 58 1) then (some (0, g)) else (as_ g 59 16 (g 58 1) a0 fun g1 => (pf g1 58 1 ((g1 58 1) + (1 : Int32)) fun g2 => (some (0, g2))))
def fJ6_bitCount_0f7a4 (a0 : Int32) (g : Mem) : Option (Int32 × Mem) :=
  lt ((a0 - ((ushr a0 (1 : Int32)) &&& (1431655765 : Int32)))) fun x1 => (lt (((x1 &&& (858993459 : Int32)) + ((ushr x1 (2 : Int32)) &&& (858993459 : Int32)))) fun x2 => (lt (((x2 + (ushr x2 (4 : Int32))) &&& (252645135 : Int32))) fun x3 => (lt ((x3 + (ushr x3 (8 : Int32)))) fun x4 => (lt ((x4 + (ushr x4 (16 : Int32)))) fun x5 => (some ((x5 &&& (63 : Int32)), g))))))
def fX1_sizeOfAll (a1 : Int32) (g : Mem) : Option (Int32 × Mem) :=
  cl (fX1_leave (10 : Int32) g) fun r1 g2 => (al g2 12 6 a1 fun v3 => (cl (fJ6_bitCount_0f7a4 v3 g2) fun r4 g5 => (some (r4, g5))))
def fX1_markOfAll (a0 : Int32) (g : Mem) : Option (Int32 × Mem) :=
  cl (fX1_leave (20 : Int32) g) fun r1 g2 => (some (a0, g2))
def fX1_markOfPlain (a1 : Int32) (g : Mem) : Option (Int32 × Mem) :=
  al g 9 6 a1 fun v1 => (if v1 = (2 : Int32) then (al g 9 6 a1 fun v2 => (if v2 = (3 : Int32) then (cl (fX1_leave (24 : Int32) g) fun r3 g4 => (cl (fX1_leave (22 : Int32) g4) fun r5 g6 => (cl (fX1_leave (21 : Int32) g6) fun r7 g8 => (cl (fX1_markOfAll a1 g8) fun r9 g10 => (al g10 10 6 a1 fun v11 => (lt ((r9 + v11)) fun x12 => (some (((2 : Int32) * x12), g10)))))))) else (cl (fX1_leave (24 : Int32) g) fun r13 g14 => (cl (fX1_leave (21 : Int32) g14) fun r15 g16 => (cl (fX1_markOfAll a1 g16) fun r17 g18 => (al g18 10 6 a1 fun v19 => (lt ((r17 + v19)) fun x20 => (some (((2 : Int32) * x20), g18))))))))) else (al g 9 6 a1 fun v21 => (if v21 = (3 : Int32) then (cl (fX1_leave (22 : Int32) g) fun r22 g23 => (cl (fX1_leave (21 : Int32) g23) fun r24 g25 => (cl (fX1_markOfAll a1 g25) fun r26 g27 => (al g27 10 6 a1 fun v28 => (lt ((r26 + v28)) fun x29 => (some ((x29 - (1000 : Int32)), g27))))))) else (cl (fX1_leave (21 : Int32) g) fun r30 g31 => (cl (fX1_markOfAll a1 g31) fun r32 g33 => (al g33 10 6 a1 fun v34 => (lt ((r32 + v34)) fun x35 => (some (x35, g33)))))))))
def fX1_sizeOfPlain (a1 : Int32) (g : Mem) : Option (Int32 × Mem) :=
  al g 9 6 a1 fun v1 => (if v1 = (2 : Int32) then (cl (fX1_leave (12 : Int32) g) fun r2 g3 => (cl (fX1_leave (11 : Int32) g3) fun r4 g5 => (cl (fX1_sizeOfAll a1 g5) fun r6 g7 => (cl (fX1_markOfPlain a1 g7) fun r8 g9 => (lt ((r6 + r8)) fun x10 => (some ((-x10), g9))))))) else (cl (fX1_leave (11 : Int32) g) fun r11 g12 => (cl (fX1_sizeOfAll a1 g12) fun r13 g14 => (cl (fX1_markOfPlain a1 g14) fun r15 g16 => (lt ((r13 + r15)) fun x17 => (some (x17, g16)))))))
def fX1_sizeOfLying (a1 : Int32) (g : Mem) : Option (Int32 × Mem) :=
  al g 9 6 a1 fun v1 => (if v1 = (5 : Int32) then (cl (fX1_leave (14 : Int32) g) fun r2 g3 => (cl (fX1_leave (13 : Int32) g3) fun r4 g5 => (cl (fX1_sizeOfAll a1 g5) fun r6 g7 => (lt ((r6 - (100 : Int32))) fun x8 => (some (((2 : Int32) * x8), g7)))))) else (cl (fX1_leave (13 : Int32) g) fun r9 g10 => (cl (fX1_sizeOfAll a1 g10) fun r11 g12 => (lt ((r11 - (100 : Int32))) fun x13 => (some (x13, g12))))))
def fX1_markOfLying (a1 : Int32) (g : Mem) : Option (Int32 × Mem) :=
  cl (fX1_leave (23 : Int32) g) fun r1 g2 => (cl (fX1_markOfAll a1 g2) fun r3 g4 => (cl (fX1_sizeOfLying a1 g4) fun r5 g6 => (some ((r3 - r5), g6))))
def fX1_begin (a1 : Int32) (a2 : Int32) (g : Mem) : Option (Int32 × Mem) :=
  pf g 58 1 (0 : Int32) fun g1 => (al g1 9 6 a1 fun v2 => (cl (fX2_isOfKind v2 (1 : Int32) g1) fun r3 g4 => (if a2 = 0 then (if r3 = 0 then (cl (fX1_sizeOfLying a1 g4) fun r5 g6 => (some (r5, g6))) else (cl (fX1_sizeOfPlain a1 g4) fun r7 g8 => (some (r7, g8)))) else (if r3 = 0 then (cl (fX1_markOfLying a1 g4) fun r9 g10 => (some (r9, g10))) else (cl (fX1_markOfPlain a1 g4) fun r11 g12 => (some (r11, g12)))))))
def fX2_sortOf (a0 : Int32) (g : Mem) : Option (Int32 × Mem) :=
  if a0 = (100 : Int32) then (some ((2 : Int32), g)) else (if a0 = (103 : Int32) then (some ((3 : Int32), g)) else (if a0 = (108 : Int32) then (some ((4 : Int32), g)) else (if a0 = (112 : Int32) then (some ((1 : Int32), g)) else (if a0 = (117 : Int32) then (some ((5 : Int32), g)) else (some ((0 : Int32), g))))))
def fX2_isSort (a0 : Int32) (g : Mem) : Option (Int32 × Mem) :=
  if a0 ≤ 0 then (some ((0 : Int32), g)) else (if (6 : Int32) ≤ a0 then (some ((0 : Int32), g)) else (some ((1 : Int32), g)))
def fX2_fits (a0 : Int32) (a1 : Int32) (a2 : Int32) (a3 : Int32) (g : Mem) : Option (Int32 × Mem) :=
  if (a3 &&& a2) = 0 then (if (a3 &&& a1) = a1 then (if a0 = (2 : Int32) then (some ((1 : Int32), g)) else (if a0 = (3 : Int32) then (cl (fJ6_bitCount_0f7a4 (a1 &&& (a3 ^^^ (-1 : Int32))) g) fun r3 g4 => (if (1 : Int32) < r3 then (some ((0 : Int32), g4)) else (some ((1 : Int32), g4)))) else (if a0 = (4 : Int32) then (some ((0 : Int32), g)) else (if a0 = (5 : Int32) then (some ((0 : Int32), g)) else (some ((1 : Int32), g)))))) else (if a0 = (2 : Int32) then (if (a3 &&& a2) = a2 then (if (a3 &&& a1) = 0 then (some ((1 : Int32), g)) else (some ((0 : Int32), g))) else (some ((0 : Int32), g))) else (if a0 = (3 : Int32) then (cl (fJ6_bitCount_0f7a4 (a1 &&& (a3 ^^^ (-1 : Int32))) g) fun r9 g10 => (if (1 : Int32) < r9 then (some ((0 : Int32), g10)) else (some ((1 : Int32), g10)))) else (if a0 = (4 : Int32) then (some ((1 : Int32), g)) else (if a0 = (5 : Int32) then (some ((1 : Int32), g)) else (some ((0 : Int32), g))))))) else (if (a3 &&& a1) = a1 then (if a0 = (2 : Int32) then (if (a3 &&& a2) = a2 then (if (a3 &&& a1) = 0 then (some ((1 : Int32), g)) else (some ((0 : Int32), g))) else (some ((0 : Int32), g))) else (if a0 = (3 : Int32) then (cl (fJ6_bitCount_0f7a4 (a1 &&& (a3 ^^^ (-1 : Int32))) g) fun r15 g16 => (if (1 : Int32) < r15 then (some ((0 : Int32), g16)) else (some ((0 : Int32), g16)))) else (if a0 = (4 : Int32) then (some ((1 : Int32), g)) else (if a0 = (5 : Int32) then (some ((0 : Int32), g)) else (some ((0 : Int32), g)))))) else (if a0 = (2 : Int32) then (if (a3 &&& a2) = a2 then (if (a3 &&& a1) = 0 then (some ((1 : Int32), g)) else (some ((0 : Int32), g))) else (some ((0 : Int32), g))) else (if a0 = (3 : Int32) then (cl (fJ6_bitCount_0f7a4 (a1 &&& (a3 ^^^ (-1 : Int32))) g) fun r21 g22 => (if (1 : Int32) < r21 then (some ((0 : Int32), g22)) else (some ((0 : Int32), g22)))) else (if a0 = (4 : Int32) then (some ((1 : Int32), g)) else (if a0 = (5 : Int32) then (some ((0 : Int32), g)) else (some ((0 : Int32), g)))))))
def fX2_least (a0 : Int32) (g : Mem) : Option (Int32 × Mem) :=
  lt ((a0 &&& (-a0))) fun x1 => (if a0 = 0 then (some ((-1000000 : Int32), g)) else (cl (fJ6_bitCount_0f7a4 (x1 - (1 : Int32)) g) fun r2 g3 => (some (r2, g3))))
def fJ7_fill_53178_L5 (q0 nq0 : Nat) (l1 : Int32) (l3 : Int32) (K : Int32 → Mem → Option (Int32 × Mem)) : Nat → Int32 → Mem → Option (Int32 × Mem)
  | 0, _, _ => none
  | n + 1, l2, g => if l3 ≤ l2 then (K l2 g) else (as_ g q0 nq0 l2 l1 fun g2 => (fJ7_fill_53178_L5 q0 nq0 l1 l3 K n (l2 + (1 : Int32)) g2))
def fJ7_fill_53178 (q0 nq0 : Nat) (a1 : Int32) (g : Mem) : Option (Int32 × Mem) :=
  lt ((Int32.ofNat nq0)) fun x1 => (fJ7_fill_53178_L5 q0 nq0 a1 x1 (fun l3 g4 => some (0, g4)) FU (0 : Int32) g)
def fX2_clear (c : Nat) (g : Mem) : Option (Int32 × Mem) :=
  pz g c 0 (1 : Int32) fun g1 => (pf g1 c 3 (0 : Int32) fun g2 => (pf g2 c 5 (0 : Int32) fun g3 => (pf g3 c 10 (0 : Int32) fun g4 => (pf g4 c 15 (0 : Int32) fun g5 => (pf g5 c 16 (0 : Int32) fun g6 => (cl (fJ7_fill_53178 (c + 7) 4 (0 : Int32) g6) fun r7 g8 => (cl (fJ7_fill_53178 (c + 8) 4 (0 : Int32) g8) fun r9 g10 => (cl (fJ7_fill_53178 (c + 9) 4 (0 : Int32) g10) fun r11 g12 => (some (0, g12))))))))))
def fX2_become (c : Nat) (d : Nat) (g : Mem) : Option (Int32 × Mem) :=
  pz g c 0 (g d 0) fun g1 => (pf g1 c 1 (g1 d 1) fun g2 => (pf g2 c 2 (g2 d 2) fun g3 => (pf g3 c 3 (g3 d 3) fun g4 => (pf g4 c 5 (g4 d 5) fun g5 => (pf g5 c 10 (g5 d 10) fun g6 => (pf g6 c 15 (g6 d 15) fun g7 => (pf g7 c 16 (g7 d 16) fun g8 => (ac g8 (d + 1) 8 (0 : Int32) (c + 1) 8 (0 : Int32) (8 : Int32) fun g9 => (ac g9 (d + 2) 6 (0 : Int32) (c + 2) 6 (0 : Int32) (6 : Int32) fun g10 => (ac g10 (d + 3) 6 (0 : Int32) (c + 3) 6 (0 : Int32) (6 : Int32) fun g11 => (ac g11 (d + 4) 6 (0 : Int32) (c + 4) 6 (0 : Int32) (6 : Int32) fun g12 => (ac g12 (d + 5) 6 (0 : Int32) (c + 5) 6 (0 : Int32) (6 : Int32) fun g13 => (ac g13 (d + 6) 4 (0 : Int32) (c + 6) 4 (0 : Int32) (4 : Int32) fun g14 => (ac g14 (d + 7) 4 (0 : Int32) (c + 7) 4 (0 : Int32) (4 : Int32) fun g15 => (ac g15 (d + 8) 4 (0 : Int32) (c + 8) 4 (0 : Int32) (4 : Int32) fun g16 => (ac g16 (d + 9) 4 (0 : Int32) (c + 9) 4 (0 : Int32) (4 : Int32) fun g17 => (some (0, g17))))))))))))))))))
def fX2_allThings (c : Nat) (g : Mem) : Option (Int32 × Mem) :=
  some ((((1 : Int32) <<< ((g c 3) &&& 31)) - (1 : Int32)), g)
def fX2_thingsFitting_L6 (c : Nat) (l1 : Int32) (l2 : Int32) (l3 : Int32) (K : Int32 → Int32 → Mem → Option (Int32 × Mem)) : Nat → Int32 → Int32 → Mem → Option (Int32 × Mem)
  | 0, _, _, _ => none
  | n + 1, l4, l5, g => if (g c 3) ≤ l5 then (K l4 l5 g) else (al g (c + 1) 8 l5 fun v1 => (cl (fX2_fits l1 l2 l3 v1 g) fun r2 g3 => (if r2 = 0 then (fX2_thingsFitting_L6 c l1 l2 l3 K n l4 (l5 + (1 : Int32)) g3) else (lt ((l4 ||| ((1 : Int32) <<< (l5 &&& 31)))) fun x4 => (fX2_thingsFitting_L6 c l1 l2 l3 K n x4 (l5 + (1 : Int32)) g3)))))
def fX2_thingsFitting (c : Nat) (a0 : Int32) (a1 : Int32) (a2 : Int32) (g : Mem) : Option (Int32 × Mem) :=
  fX2_thingsFitting_L6 c a0 a1 a2 (fun l5 l6 g7 => some (l5, g7)) FU (0 : Int32) (0 : Int32) g
def fX2_answer (c : Nat) (a0 : Int32) (g : Mem) : Option (Int32 × Mem) :=
  al g (c + 5) 6 a0 fun v1 => (cl (fX2_least v1 g) fun r2 g3 => (some (r2, g3)))
def fX2_heSays (c : Nat) (a0 : Int32) (a1 : Int32) (g : Mem) : Option (Int32 × Mem) :=
  al g (c + 5) 6 a1 fun v1 => (al g (c + 6) 4 a0 fun v2 => (cl (fX2_least (v1 &&& v2) g) fun r3 g4 => (some (r3, g4))))
def fX2_sheSays (c : Nat) (a0 : Int32) (g : Mem) : Option (Int32 × Mem) :=
  al g (c + 5) 6 a0 fun v1 => (cl (fX2_least (v1 &&& (g c 1)) g) fun r2 g3 => (some (r2, g3)))
def fX2_isKnown (c : Nat) (a0 : Int32) (a1 : Int32) (g : Mem) : Option (Int32 × Mem) :=
  al g (c + 6) 4 a0 fun v1 => (if ((v1 >>> (a1 &&& 31)) &&& (1 : Int32)) = 0 then (some ((0 : Int32), g)) else (some ((1 : Int32), g)))
def fX2_wasUsed (c : Nat) (a0 : Int32) (g : Mem) : Option (Int32 × Mem) :=
  if (((g c 15) >>> (a0 &&& 31)) &&& (1 : Int32)) = 0 then (some ((0 : Int32), g)) else (some ((1 : Int32), g))
def fX2_comes (c : Nat) (a0 : Int32) (g : Mem) : Option (Int32 × Mem) :=
  al g (c + 7) 4 a0 fun v1 => (if v1 = 0 then (some ((1 : Int32), g)) else (some ((0 : Int32), g)))
def fX2_countOfFate_L4 (c : Nat) (l1 : Int32) (K : Int32 → Int32 → Mem → Option (Int32 × Mem)) : Nat → Int32 → Int32 → Mem → Option (Int32 × Mem)
  | 0, _, _, _ => none
  | n + 1, l2, l3, g => if (g c 10) ≤ l3 then (K l2 l3 g) else (al g (c + 7) 4 l3 fun v1 => (if v1 = l1 then (fX2_countOfFate_L4 c l1 K n (l2 + (1 : Int32)) (l3 + (1 : Int32)) g) else (fX2_countOfFate_L4 c l1 K n l2 (l3 + (1 : Int32)) g)))
def fX2_countOfFate (c : Nat) (a0 : Int32) (g : Mem) : Option (Int32 × Mem) :=
  fX2_countOfFate_L4 c a0 (fun l2 l3 g4 => some (l2, g4)) FU (0 : Int32) (0 : Int32) g
def fX2_isOneWed (c : Nat) (g : Mem) : Option (Int32 × Mem) :=
  cl (fX2_countOfFate c (2 : Int32) g) fun r1 g2 => (if r1 ≤ 0 then (some ((0 : Int32), g2)) else (some ((1 : Int32), g2)))
def fX2_answerHer (c : Nat) (a0 : Int32) (a1 : Int32) (g : Mem) : Option (Int32 × Mem) :=
  cl (fX2_heSays c a0 a1 g) fun r1 g2 => (pf g2 c 15 ((g2 c 15) ||| ((1 : Int32) <<< (a1 &&& 31))) fun g3 => (cl (fX2_answer c a1 g3) fun r4 g5 => (if r1 = r4 then (al g5 (c + 8) 4 a0 fun v6 => (as_ g5 (c + 8) 4 a0 (v6 + (1 : Int32)) fun g7 => (al g7 (c + 8) 4 a0 fun v8 => (if v8 < (3 : Int32) then (some (r1, g7)) else (as_ g7 (c + 7) 4 a0 (2 : Int32) fun g9 => (some (r1, g9))))))) else (as_ g5 (c + 7) 4 a0 (1 : Int32) fun g10 => (some (r1, g10))))))
def fX2_askHer (c : Nat) (a0 : Int32) (a1 : Int32) (g : Mem) : Option (Int32 × Mem) :=
  cl (fX2_sheSays c a1 g) fun r1 g2 => (pf g2 c 15 ((g2 c 15) ||| ((1 : Int32) <<< (a1 &&& 31))) fun g3 => (as_ g3 (c + 9) 4 a0 (1 : Int32) fun g4 => (cl (fX2_answer c a1 g4) fun r5 g6 => (if r1 = r5 then (some (r1, g6)) else (as_ g6 (c + 7) 4 a0 (3 : Int32) fun g7 => (some (r1, g7)))))))
def fX2_cost_L4 (c : Nat) (l1 : Int32) (K : Int32 → Int32 → Mem → Option (Int32 × Mem)) : Nat → Int32 → Int32 → Mem → Option (Int32 × Mem)
  | 0, _, _, _ => none
  | n + 1, l2, l3, g => if (g c 5) ≤ l3 then (K l2 l3 g) else (cl (fX2_wasUsed c l3 g) fun r1 g2 => (if r1 = 0 then (cl (fX2_answer c l3 g2) fun r3 g4 => (if r3 = l1 then (lt ((l2 + (g4 c 2))) fun x5 => (fX2_cost_L4 c l1 K n x5 (l3 + (1 : Int32)) g4)) else (fX2_cost_L4 c l1 K n l2 (l3 + (1 : Int32)) g4))) else (fX2_cost_L4 c l1 K n l2 (l3 + (1 : Int32)) g2)))
def fX2_cost (c : Nat) (a0 : Int32) (g : Mem) : Option (Int32 × Mem) :=
  fX2_cost_L4 c a0 (fun l6 l7 g8 => some (l6, g8)) FU (0 : Int32) (0 : Int32) g
def fX2_sell (c : Nat) (a0 : Int32) (a1 : Int32) (g : Mem) : Option (Int32 × Mem) :=
  cl (fX2_cost c a1 g) fun r1 g2 => (al g2 (c + 6) 4 a0 fun v3 => (as_ g2 (c + 6) 4 a0 (v3 ||| ((1 : Int32) <<< (a1 &&& 31))) fun g4 => (pf g4 c 16 ((g4 c 16) + r1) fun g5 => (some (r1, g5)))))
def fX2_costOfAll_L4 (c : Nat) (l1 : Int32) (K : Int32 → Int32 → Mem → Option (Int32 × Mem)) : Nat → Int32 → Int32 → Mem → Option (Int32 × Mem)
  | 0, _, _, _ => none
  | n + 1, l2, l3, g => if (g c 3) ≤ l3 then (K l2 l3 g) else (if ((l1 >>> (l3 &&& 31)) &&& (1 : Int32)) = 0 then (fX2_costOfAll_L4 c l1 K n l2 (l3 + (1 : Int32)) g) else (cl (fX2_cost c l3 g) fun r1 g2 => (lt ((l2 + r1)) fun x3 => (fX2_costOfAll_L4 c l1 K n x3 (l3 + (1 : Int32)) g2))))
def fX2_costOfAll (c : Nat) (a0 : Int32) (g : Mem) : Option (Int32 × Mem) :=
  fX2_costOfAll_L4 c a0 (fun l4 l5 g6 => some (l4, g6)) FU (0 : Int32) (0 : Int32) g
def fX3_onlyThing (a1 : Int32) (a2 : Int32) (g : Mem) : Option (Int32 × Mem) :=
  lt ((a2 >>> ((5 : Int32) &&& 31))) fun x1 => (lt ((a2 &&& (31 : Int32))) fun x2 => (if (x1 &&& x2) = 0 then (cl (fX2_thingsFitting 7 a1 x1 x2 g) fun r3 g4 => (cl (fJ6_bitCount_0f7a4 r3 g4) fun r5 g6 => (if r5 = (1 : Int32) then (cl (fX2_least r3 g6) fun r7 g8 => (some (r7, g8))) else (some ((-1000000 : Int32), g6))))) else (some ((-1000000 : Int32), g))))
def fX3_riddleAgainst_L10 (l2 : Int32) (l3 : Int32) (l4 : Int32) (K : Int32 → Int32 → Int32 → Mem → Option (Int32 × Mem)) : Nat → Int32 → Int32 → Int32 → Mem → Option (Int32 × Mem)
  | 0, _, _, _, _ => none
  | n + 1, l5, l6, l7, g => if (1024 : Int32) ≤ l7 then (K l5 l6 l7 g) else (cl (fX3_onlyThing l3 l7 g) fun r1 g2 => (if r1 = (-1000000 : Int32) then (fX3_riddleAgainst_L10 l2 l3 l4 K n l5 l6 (l7 + (1 : Int32)) g2) else (cl (fX2_isKnown 7 l2 r1 g2) fun r3 g4 => (if r3 = 0 then (if l6 = 0 then (fX3_riddleAgainst_L10 l2 l3 l4 K n l7 (l6 + (1 : Int32)) (l7 + (1 : Int32)) g4) else (fX3_riddleAgainst_L10 l2 l3 l4 K n l5 (l6 + (1 : Int32)) (l7 + (1 : Int32)) g4)) else (fX3_riddleAgainst_L10 l2 l3 l4 K n l5 l6 (l7 + (1 : Int32)) g4)))))
def fX3_riddleAgainst (a1 : Int32) (a2 : Int32) (a3 : Int32) (g : Mem) : Option (Int32 × Mem) :=
  fX3_riddleAgainst_L10 a1 a2 a3 (fun l5 l6 l7 g8 => if a3 = 0 then (some (l5, g8)) else (some (l6, g8))) FU (-1000000 : Int32) (0 : Int32) (0 : Int32) g
def fX3_comingWithout_L4 (l1 : Int32) (K : Int32 → Int32 → Mem → Option (Int32 × Mem)) : Nat → Int32 → Int32 → Mem → Option (Int32 × Mem)
  | 0, _, _, _ => none
  | n + 1, l2, l3, g => if (g 7 10) ≤ l3 then (K l2 l3 g) else (cl (fX2_comes 7 l3 g) fun r1 g2 => (if r1 = 0 then (fX3_comingWithout_L4 l1 K n l2 (l3 + (1 : Int32)) g2) else (cl (fX2_isKnown 7 l3 l1 g2) fun r3 g4 => (if r3 = 0 then (fX3_comingWithout_L4 l1 K n (l2 + (1 : Int32)) (l3 + (1 : Int32)) g4) else (fX3_comingWithout_L4 l1 K n l2 (l3 + (1 : Int32)) g4)))))
def fX3_comingWithout (a1 : Int32) (g : Mem) : Option (Int32 × Mem) :=
  fX3_comingWithout_L4 a1 (fun l5 l6 g7 => some (l5, g7)) FU (0 : Int32) (0 : Int32) g
def fX3_hardest_L11 (l2 : Int32) (l3 : Int32) (K : Int32 → Int32 → Int32 → Mem → Option (Int32 × Mem)) : Nat → Int32 → Int32 → Int32 → Mem → Option (Int32 × Mem)
  | 0, _, _, _, _ => none
  | n + 1, l4, l5, l6, g => if (1024 : Int32) ≤ l6 then (K l4 l5 l6 g) else (cl (fX3_onlyThing l2 l6 g) fun r1 g2 => (if r1 = (-1000000 : Int32) then (if (-1000000 : Int32) ≤ l5 then (fX3_hardest_L11 l2 l3 K n l4 l5 (l6 + (1 : Int32)) g2) else (fX3_hardest_L11 l2 l3 K n l6 (-1000000 : Int32) (l6 + (1 : Int32)) g2)) else (cl (fX3_comingWithout r1 g2) fun r3 g4 => (if r3 ≤ l5 then (fX3_hardest_L11 l2 l3 K n l4 l5 (l6 + (1 : Int32)) g4) else (fX3_hardest_L11 l2 l3 K n l6 r3 (l6 + (1 : Int32)) g4)))))
def fX3_hardest (a1 : Int32) (a2 : Int32) (g : Mem) : Option (Int32 × Mem) :=
  fX3_hardest_L11 a1 a2 (fun l5 l6 l7 g8 => if a2 = 0 then (some (l5, g8)) else (some (l6, g8))) FU (-1000000 : Int32) (-1000000 : Int32) (0 : Int32) g
def fX3_rowsOfUnlike_L4 (l0 : Int32) (l1 : Int32) (K : Int32 → Int32 → Mem → Option (Int32 × Mem)) : Nat → Int32 → Int32 → Mem → Option (Int32 × Mem)
  | 0, _, _, _ => none
  | n + 1, l2, l3, g => if l1 ≤ l3 then (K l2 l3 g) else (lt ((l2 * (mx (l0 - l3) (0 : Int32)))) fun x1 => (fX3_rowsOfUnlike_L4 l0 l1 K n x1 (l3 + (1 : Int32)) g))
def fX3_rowsOfUnlike (a0 : Int32) (a1 : Int32) (g : Mem) : Option (Int32 × Mem) :=
  fX3_rowsOfUnlike_L4 a0 a1 (fun l2 l3 g4 => some (l2, g4)) FU (1 : Int32) (0 : Int32) g
def fX3_likelihood_L9 (l2 : Int32) (l3 : Int32) (K : Int32 → Int32 → Int32 → Mem → Option (Int32 × Mem)) : Nat → Int32 → Int32 → Int32 → Mem → Option (Int32 × Mem)
  | 0, _, _, _, _ => none
  | n + 1, l4, l5, l6, g => if (g 7 5) ≤ l6 then (K l4 l5 l6 g) else (cl (fX2_wasUsed 7 l6 g) fun r1 g2 => (if r1 = 0 then (cl (fX2_heSays 7 l2 l6 g2) fun r3 g4 => (cl (fX2_answer 7 l6 g4) fun r5 g6 => (if r3 = r5 then (lt ((l5 + (1 : Int32))) fun x7 => (fX3_likelihood_L9 l2 l3 K n (l4 + (1 : Int32)) x7 (l6 + (1 : Int32)) g6)) else (lt ((l5 + (0 : Int32))) fun x8 => (fX3_likelihood_L9 l2 l3 K n (l4 + (1 : Int32)) x8 (l6 + (1 : Int32)) g6))))) else (fX3_likelihood_L9 l2 l3 K n l4 l5 (l6 + (1 : Int32)) g2)))
def fX3_likelihood_L104 (l2 : Int32) (l3 : Int32) (l4 : Int32) (l5 : Int32) (l6 : Int32) (K : Int32 → Int32 → Int32 → Mem → Option (Int32 × Mem)) : Nat → Int32 → Int32 → Int32 → Mem → Option (Int32 × Mem)
  | 0, _, _, _, _ => none
  | n + 1, l7, l8, l9, g => if l9 ≤ (1 : Int32) then (K l7 l8 l9 g) else (nz l9 (if (irm l7 l9) = 0 then (nz l9 (if (irm l8 l9) = 0 then (nz l9 (lt ((l7 / l9)) fun x19 => (nz l9 (lt ((l8 / l9)) fun x20 => (fX3_likelihood_L104 l2 l3 l4 l5 l6 K n x19 x20 (l9 + (-1 : Int32)) g))))) else (fX3_likelihood_L104 l2 l3 l4 l5 l6 K n l7 l8 (l9 + (-1 : Int32)) g))) else (fX3_likelihood_L104 l2 l3 l4 l5 l6 K n l7 l8 (l9 + (-1 : Int32)) g)))
def fX3_likelihood (a1 : Int32) (a2 : Int32) (g : Mem) : Option (Int32 × Mem) :=
  fX3_likelihood_L9 a1 a2 (fun l9 l10 l11 g12 => al g12 15 4 a1 fun v13 => (lt (((3 : Int32) - v13)) fun x14 => (if x14 ≤ l9 then (cl (fX3_rowsOfUnlike l10 x14 g12) fun r15 g16 => (cl (fX3_rowsOfUnlike l9 x14 g16) fun r17 g18 => (fX3_likelihood_L104 a1 a2 l9 l10 x14 (fun l21 l22 l23 g24 => if a2 = 0 then (some (l21, g24)) else (some (l22, g24))) FU r15 r17 r17 g18))) else (some ((-1000000 : Int32), g12))))) FU (0 : Int32) (0 : Int32) (0 : Int32) g
def fX3_wanted_L5 (l2 : Int32) (K : Int32 → Int32 → Mem → Option (Int32 × Mem)) : Nat → Int32 → Int32 → Mem → Option (Int32 × Mem)
  | 0, _, _, _ => none
  | n + 1, l3, l4, g => if (g 7 5) ≤ l4 then (K l3 l4 g) else (cl (fX2_answer 7 l4 g) fun r1 g2 => (cl (fX2_wasUsed 7 l4 g2) fun r3 g4 => (if r3 = 0 then (if r1 = (-1000000 : Int32) then (fX3_wanted_L5 l2 K n l3 (l4 + (1 : Int32)) g4) else (lt ((l3 ||| ((1 : Int32) <<< (r1 &&& 31)))) fun x5 => (fX3_wanted_L5 l2 K n x5 (l4 + (1 : Int32)) g4))) else (fX3_wanted_L5 l2 K n l3 (l4 + (1 : Int32)) g4))))
def fX3_wanted (a1 : Int32) (g : Mem) : Option (Int32 × Mem) :=
  fX3_wanted_L5 a1 (fun l6 l7 g8 => al g8 13 4 a1 fun v9 => (some ((l6 &&& (v9 ^^^ (-1 : Int32))), g8))) FU (0 : Int32) (0 : Int32) g
def fX3_beating_L4 (K : Int32 → Int32 → Mem → Option (Int32 × Mem)) : Nat → Int32 → Int32 → Mem → Option (Int32 × Mem)
  | 0, _, _, _ => none
  | n + 1, l2, l3, g => if (g 7 5) ≤ l3 then (K l2 l3 g) else (cl (fX2_wasUsed 7 l3 g) fun r1 g2 => (if r1 = 0 then (cl (fX2_sheSays 7 l3 g2) fun r3 g4 => (cl (fX2_answer 7 l3 g4) fun r5 g6 => (if r3 = r5 then (fX3_beating_L4 K n l2 (l3 + (1 : Int32)) g6) else (lt ((l2 ||| ((1 : Int32) <<< (l3 &&& 31)))) fun x7 => (fX3_beating_L4 K n x7 (l3 + (1 : Int32)) g6))))) else (fX3_beating_L4 K n l2 (l3 + (1 : Int32)) g2)))
def fX3_beating (g : Mem) : Option (Int32 × Mem) :=
  fX3_beating_L4 (fun l8 l9 g10 => some (l8, g10)) FU (0 : Int32) (0 : Int32) g
def fX3_areTwoAlike_L4 (l1 : Int32) (K : Int32 → Int32 → Mem → Option (Int32 × Mem)) : Nat → Int32 → Int32 → Mem → Option (Int32 × Mem)
  | 0, _, _, _ => none
  | n + 1, l2, l3, g => if (g 7 3) ≤ l3 then (K l2 l3 g) else (if ((l1 >>> (l3 &&& 31)) &&& (1 : Int32)) = 0 then (fX3_areTwoAlike_L4 l1 K n l2 (l3 + (1 : Int32)) g) else (al g 8 8 l3 fun v1 => (lt (((1 : Int32) <<< (v1 &&& 31))) fun x2 => (if (l2 &&& x2) = 0 then (lt ((l2 ||| x2)) fun x3 => (fX3_areTwoAlike_L4 l1 K n x3 (l3 + (1 : Int32)) g)) else (some ((1 : Int32), g))))))
def fX3_areTwoAlike (a1 : Int32) (g : Mem) : Option (Int32 × Mem) :=
  fX3_areTwoAlike_L4 a1 (fun l4 l5 g6 => some ((0 : Int32), g6)) FU (0 : Int32) (0 : Int32) g
def fX3_gatherByTraits_L17 (l2 : Int32) (K : Int32 → Mem → Option (Int32 × Mem)) : Nat → Int32 → Mem → Option (Int32 × Mem)
  | 0, _, _ => none
  | n + 1, l3, g => if (g 7 3) ≤ l3 then (K l3 g) else (al g 8 8 l3 fun v3 => (if ((v3 >>> (l2 &&& 31)) &&& (1 : Int32)) = 0 then (fX3_gatherByTraits_L17 l2 K n (l3 + (1 : Int32)) g) else (al g 57 5 l2 fun v4 => (as_ g 57 5 l2 (v4 ||| ((1 : Int32) <<< (l3 &&& 31))) fun g5 => (fX3_gatherByTraits_L17 l2 K n (l3 + (1 : Int32)) g5)))))
def fX3_gatherByTraits_L10 (K : Int32 → Mem → Option (Int32 × Mem)) : Nat → Int32 → Mem → Option (Int32 × Mem)
  | 0, _, _ => none
  | n + 1, l2, g => if (5 : Int32) ≤ l2 then (K l2 g) else (fX3_gatherByTraits_L17 l2 (fun l6 g7 => fX3_gatherByTraits_L10 K n (l2 + (1 : Int32)) g7) FU (0 : Int32) g)
def fX3_gatherByTraits (g : Mem) : Option (Int32 × Mem) :=
  cl (fJ7_fill_53178 57 5 (0 : Int32) g) fun r1 g2 => (fX3_gatherByTraits_L10 (fun l8 g9 => some (0, g9)) FU (0 : Int32) g2)
def fX3_splits (a0 : Int32) (a1 : Int32) (g : Mem) : Option (Int32 × Mem) :=
  al g 57 5 a0 fun v1 => (if (a1 &&& v1) = 0 then (some ((0 : Int32), g)) else (al g 57 5 a0 fun v2 => (if (a1 &&& (v2 ^^^ (-1 : Int32))) = 0 then (some ((0 : Int32), g)) else (some ((1 : Int32), g)))))
def fX3_questionsBy (a0 : Int32) (a1 : Int32) (g : Mem) : Option (Int32 × Mem) :=
  al g 57 5 a0 fun v1 => (al g 56 256 (a1 &&& v1) fun v2 => (al g 57 5 a0 fun v3 => (al g 56 256 (a1 &&& (v3 ^^^ (-1 : Int32))) fun v4 => (some (((1 : Int32) + (mx v2 v4)), g)))))
def fX3_fewestOfAll_L14 (l1 : Int32) (K : Int32 → Int32 → Mem → Option (Int32 × Mem)) : Nat → Int32 → Int32 → Mem → Option (Int32 × Mem)
  | 0, _, _, _ => none
  | n + 1, l2, l3, g => if (5 : Int32) ≤ l3 then (K l2 l3 g) else (cl (fX3_splits l3 l1 g) fun r3 g4 => (if r3 = 0 then (fX3_fewestOfAll_L14 l1 K n l2 (l3 + (1 : Int32)) g4) else (cl (fX3_questionsBy l3 l1 g4) fun r5 g6 => (lt ((mn l2 r5)) fun x7 => (fX3_fewestOfAll_L14 l1 K n x7 (l3 + (1 : Int32)) g6)))))
def fX3_fewestOfAll (a0 : Int32) (g : Mem) : Option (Int32 × Mem) :=
  cl (fJ6_bitCount_0f7a4 a0 g) fun r1 g2 => (if (1 : Int32) < r1 then (fX3_fewestOfAll_L14 a0 (fun l8 l9 g10 => some (l8, g10)) FU (5 : Int32) (0 : Int32) g2) else (some ((0 : Int32), g2)))
def fX3_firstTrait_L2 (l1 : Int32) (K : Int32 → Mem → Option (Int32 × Mem)) : Nat → Int32 → Mem → Option (Int32 × Mem)
  | 0, _, _ => none
  | n + 1, l2, g => if (5 : Int32) ≤ l2 then (K l2 g) else (cl (fX3_splits l2 l1 g) fun r1 g2 => (if r1 = 0 then (fX3_firstTrait_L2 l1 K n (l2 + (1 : Int32)) g2) else (cl (fX3_questionsBy l2 l1 g2) fun r3 g4 => (al g4 56 256 l1 fun v5 => (if r3 = v5 then (some (l2, g4)) else (fX3_firstTrait_L2 l1 K n (l2 + (1 : Int32)) g4))))))
def fX3_firstTrait (a0 : Int32) (g : Mem) : Option (Int32 × Mem) :=
  fX3_firstTrait_L2 a0 (fun l6 g7 => some ((-1000000 : Int32), g7)) FU (0 : Int32) g
def fX3_fewestQuestions_L19 (l2 : Int32) (l3 : Int32) (K : Int32 → Mem → Option (Int32 × Mem)) : Nat → Int32 → Mem → Option (Int32 × Mem)
  | 0, _, _ => none
  | n + 1, l4, g => if l2 < l4 then (K l4 g) else (if (l4 &&& (l2 ^^^ (-1 : Int32))) = 0 then (cl (fX3_fewestOfAll l4 g) fun r5 g6 => (as_ g6 56 256 l4 r5 fun g7 => (fX3_fewestQuestions_L19 l2 l3 K n (l4 + (1 : Int32)) g7))) else (fX3_fewestQuestions_L19 l2 l3 K n (l4 + (1 : Int32)) g))
def fX3_fewestQuestions (a1 : Int32) (a2 : Int32) (g : Mem) : Option (Int32 × Mem) :=
  cl (fX3_areTwoAlike a1 g) fun r1 g2 => (if r1 = 0 then (cl (fX3_gatherByTraits g2) fun r3 g4 => (fX3_fewestQuestions_L19 a1 a2 (fun l8 g9 => if a2 = 0 then (al g9 56 256 a1 fun v10 => (some (v10, g9))) else (cl (fX3_firstTrait a1 g9) fun r11 g12 => (some (r11, g12)))) FU (0 : Int32) g4)) else (some ((-1000000 : Int32), g2)))
def fX3_riddlesSaid_L18 (l1 : Int32) (l2 : Int32) (l3 : Int32) (K : Int32 → Int32 → Mem → Option (Int32 × Mem)) : Nat → Int32 → Int32 → Mem → Option (Int32 × Mem)
  | 0, _, _, _ => none
  | n + 1, l4, l5, g => if (g 7 5) ≤ l5 then (K l4 l5 g) else (cl (fX2_heSays 7 l1 l5 g) fun r1 g2 => (if r1 = l3 then (lt ((l4 ||| ((1 : Int32) <<< (l5 &&& 31)))) fun x3 => (fX3_riddlesSaid_L18 l1 l2 l3 K n x3 (l5 + (1 : Int32)) g2)) else (fX3_riddlesSaid_L18 l1 l2 l3 K n l4 (l5 + (1 : Int32)) g2)))
def fX3_riddlesSaid (a1 : Int32) (a2 : Int32) (g : Mem) : Option (Int32 × Mem) :=
  if a2 = (-1 : Int32) then (fX3_riddlesSaid_L18 a1 a2 (-1000000 : Int32) (fun l4 l5 g6 => some (l4, g6)) FU (0 : Int32) (0 : Int32) g) else (fX3_riddlesSaid_L18 a1 a2 a2 (fun l7 l8 g9 => some (l7, g9)) FU (0 : Int32) (0 : Int32) g)
def fX3_timesBefore_L4 (q0 nq0 : Nat) (l1 : Int32) (K : Int32 → Int32 → Mem → Option (Int32 × Mem)) : Nat → Int32 → Int32 → Mem → Option (Int32 × Mem)
  | 0, _, _, _ => none
  | n + 1, l2, l3, g => if l1 ≤ l3 then (K l2 l3 g) else (al g q0 nq0 l3 fun v1 => (al g q0 nq0 l1 fun v2 => (if v1 = v2 then (fX3_timesBefore_L4 q0 nq0 l1 K n (l2 + (1 : Int32)) (l3 + (1 : Int32)) g) else (fX3_timesBefore_L4 q0 nq0 l1 K n l2 (l3 + (1 : Int32)) g))))
def fX3_timesBefore (q0 nq0 : Nat) (a1 : Int32) (g : Mem) : Option (Int32 × Mem) :=
  fX3_timesBefore_L4 q0 nq0 a1 (fun l3 l4 g5 => some (l3, g5)) FU (0 : Int32) (0 : Int32) g
def fX3_riddlesHeard_L9 (q2 nq2 : Nat) (l2 : Int32) (l4 : Int32) (l5 : Int32) (K : Int32 → Int32 → Int32 → Mem → Option (Int32 × Mem)) : Nat → Int32 → Int32 → Int32 → Mem → Option (Int32 × Mem)
  | 0, _, _, _, _ => none
  | n + 1, l6, l7, l8, g => if l4 ≤ l8 then (K l6 l7 l8 g) else (al g q2 nq2 l8 fun v1 => (cl (fX3_riddlesSaid l2 v1 g) fun r2 g3 => (cl (fJ6_bitCount_0f7a4 r2 g3) fun r4 g5 => (cl (fX3_timesBefore q2 nq2 l8 g5) fun r6 g7 => (lt ((r4 - r6)) fun x8 => (if 0 < x8 then (lt ((l6 * x8)) fun x9 => (if x8 = (1 : Int32) then (lt ((l7 ||| r2)) fun x10 => (fX3_riddlesHeard_L9 q2 nq2 l2 l4 l5 K n x9 x10 (l8 + (1 : Int32)) g7)) else (lt ((l7 ||| (0 : Int32))) fun x11 => (fX3_riddlesHeard_L9 q2 nq2 l2 l4 l5 K n x9 x11 (l8 + (1 : Int32)) g7)))) else (some ((0 : Int32), g7))))))))
def fX3_riddlesHeard (a1 : Int32) (q2 nq2 : Nat) (a3 : Int32) (a4 : Int32) (g : Mem) : Option (Int32 × Mem) :=
  fX3_riddlesHeard_L9 q2 nq2 a1 a3 a4 (fun l12 l13 l14 g15 => if a4 = 0 then (some (l12, g15)) else (some (l13, g15))) FU (1 : Int32) (0 : Int32) (0 : Int32) g
def fX4_isMissing (a0 : Int32) (g : Mem) : Option (Int32 × Mem) :=
  al g 2 8 a0 fun v1 => (if v1 = 0 then (some ((1 : Int32), g)) else (some ((0 : Int32), g)))
def fX4_areAlike (a0 : Int32) (a1 : Int32) (g : Mem) : Option (Int32 × Mem) :=
  al g 2 8 a0 fun v1 => (al g 2 8 a1 fun v2 => (if v1 = v2 then (some ((1 : Int32), g)) else (some ((0 : Int32), g))))
def fX4_hasPlaces (a0 : Int32) (a1 : Int32) (a2 : Int32) (g : Mem) : Option (Int32 × Mem) :=
  if a1 < 0 then (some ((0 : Int32), g)) else (if a2 < 0 then (some ((0 : Int32), g)) else (al g 3 8 a0 fun v1 => (if v1 < a2 then (some ((0 : Int32), g)) else (al g 3 8 a0 fun v2 => (if (v2 - a2) < a1 then (some ((0 : Int32), g)) else (some ((1 : Int32), g)))))))
def fJ7_rangeCheck_23922 (a0 : Int32) (a1 : Int32) (a2 : Int32) (g : Mem) : Option (Int32 × Mem) :=
  if a1 ≤ a2 then (if 0 ≤ a1 then (if a2 ≤ a0 then (some (0, g)) else (none)) else (none)) else (none)
def fJ7_fill_fda19_L10 (q0 nq0 : Nat) (l1 : Int32) (l2 : Int32) (l3 : Int32) (K : Int32 → Mem → Option (Int32 × Mem)) : Nat → Int32 → Mem → Option (Int32 × Mem)
  | 0, _, _ => none
  | n + 1, l4, g => if l2 ≤ l4 then (K l4 g) else (as_ g q0 nq0 l4 l3 fun g3 => (fJ7_fill_fda19_L10 q0 nq0 l1 l2 l3 K n (l4 + (1 : Int32)) g3))
def fJ7_fill_fda19 (q0 nq0 : Nat) (a1 : Int32) (a2 : Int32) (a3 : Int32) (g : Mem) : Option (Int32 × Mem) :=
  cl (fJ7_rangeCheck_23922 (Int32.ofNat nq0) a1 a2 g) fun r1 g2 => (fJ7_fill_fda19_L10 q0 nq0 a1 a2 a3 (fun l4 g5 => some (0, g5)) FU a1 g2)
def fX4_lay (a0 : Int32) (a1 : Int32) (a2 : Int32) (g : Mem) : Option (Int32 × Mem) :=
  as_ g 2 8 a0 ((8 : Int32) <<< (a1 &&& 31)) fun g1 => (as_ g1 3 8 a0 a2 fun g2 => (cl (fJ7_fill_fda19 4 320 (a0 * (40 : Int32)) ((a0 * (40 : Int32)) + (40 : Int32)) (0 : Int32) g2) fun r3 g4 => (some (0, g4))))
def fX4_put (a0 : Int32) (a1 : Int32) (a2 : Int32) (g : Mem) : Option (Int32 × Mem) :=
  al g 2 8 a0 fun v1 => (lt (((32 : Int32) - v1)) fun x2 => (as_ g 4 320 ((a0 * (40 : Int32)) + a1) ((a2 <<< (x2 &&& 31)) >>> (x2 &&& 31)) fun g3 => (al g3 4 320 ((a0 * (40 : Int32)) + a1) fun v4 => (some (v4, g3)))))
def fX4_at (a0 : Int32) (a1 : Int32) (g : Mem) : Option (Int32 × Mem) :=
  al g 4 320 ((a0 * (40 : Int32)) + a1) fun v1 => (some (v1, g))
def fX4_move (a0 : Int32) (a1 : Int32) (a2 : Int32) (a3 : Int32) (a4 : Int32) (g : Mem) : Option (Int32 × Mem) :=
  ac g 4 320 ((a0 * (40 : Int32)) + a1) 4 320 ((a2 * (40 : Int32)) + a3) a4 fun g1 => (some (0, g1))
def fX4_lose (a0 : Int32) (g : Mem) : Option (Int32 × Mem) :=
  as_ g 2 8 a0 (0 : Int32) fun g1 => (al g1 3 8 a0 fun v2 => (some (v2, g1)))
def fX4_present_L4 (K : Int32 → Int32 → Mem → Option (Int32 × Mem)) : Nat → Int32 → Int32 → Mem → Option (Int32 × Mem)
  | 0, _, _, _ => none
  | n + 1, l1, l2, g => if (8 : Int32) ≤ l2 then (K l1 l2 g) else (al g 2 8 l2 fun v1 => (if v1 = 0 then (fX4_present_L4 K n l1 (l2 + (1 : Int32)) g) else (fX4_present_L4 K n (l1 + (1 : Int32)) (l2 + (1 : Int32)) g)))
def fX4_present (g : Mem) : Option (Int32 × Mem) :=
  fX4_present_L4 (fun l2 l3 g4 => some (l2, g4)) FU (0 : Int32) (0 : Int32) g
def fX5_add (a0 : Int32) (g : Mem) : Option (Int32 × Mem) :=
  if (g 5 1) < (120 : Int32) then (as_ g 6 120 (g 5 1) a0 fun g1 => (pf g1 5 1 ((g1 5 1) + (1 : Int32)) fun g2 => (some ((g2 5 1), g2)))) else (some ((-1000003 : Int32), g))
def fX5_clear (g : Mem) : Option (Int32 × Mem) :=
  pf g 5 1 (0 : Int32) fun g1 => (some (0, g1))
def fX5_next (g : Mem) : Option (Int32 × Mem) :=
  if (g 5 1) ≤ (g 5 2) then (some ((-1 : Int32), g)) else (al g 6 120 (g 5 2) fun v1 => (some (v1, g)))
def fX5_faulty (a0 : Int32) (g : Mem) : Option (Int32 × Mem) :=
  pf g 5 3 a0 fun g1 => (some ((0 : Int32), g1))
def fX5_takes (a0 : Int32) (g : Mem) : Option (Int32 × Mem) :=
  cl (fX5_next g) fun r1 g2 => (if r1 = a0 then (pf g2 5 2 ((g2 5 2) + (1 : Int32)) fun g3 => (some ((1 : Int32), g3))) else (cl (fX5_faulty (1 : Int32) g2) fun r4 g5 => (rz r4 g5)))
def fX5_takesNumber_L8 (l1 : Int32) (l2 : Int32) (K : Int32 → Int32 → Mem → Option (Int32 × Mem)) : Nat → Int32 → Int32 → Mem → Option (Int32 × Mem)
  | 0, _, _, _ => none
  | n + 1, l3, l4, g => if (g 5 1) ≤ l3 then (K l3 l4 g) else (al g 6 120 l3 fun v2 => (if v2 < (48 : Int32) then (K l3 l4 g) else (al g 6 120 l3 fun v3 => (if (57 : Int32) < v3 then (K l3 l4 g) else (if (3 : Int32) ≤ (l3 - (g 5 2)) then (fX5_takesNumber_L8 l1 l2 K n (l3 + (1 : Int32)) l4 g) else (al g 6 120 l3 fun v4 => (lt (((((10 : Int32) * l4) + v4) - (48 : Int32))) fun x5 => (fX5_takesNumber_L8 l1 l2 K n (l3 + (1 : Int32)) x5 g))))))))
def fX5_takesNumber (a0 : Int32) (a1 : Int32) (g : Mem) : Option (Int32 × Mem) :=
  lt ((g 5 2)) fun x1 => (fX5_takesNumber_L8 a0 a1 (fun l6 l7 g8 => if l6 = (g8 5 2) then (cl (fX5_faulty (1 : Int32) g8) fun r9 g10 => (rz r9 g10)) else (if (l6 - (g8 5 2)) ≤ (3 : Int32) then (if a0 < l7 then (cl (fX5_faulty (2 : Int32) g8) fun r11 g12 => (rz r11 g12)) else (if (l7 &&& a1) = 0 then (pf g8 5 4 l7 fun g13 => (pf g13 5 2 l6 fun g14 => (some ((1 : Int32), g14)))) else (cl (fX5_faulty (2 : Int32) g8) fun r15 g16 => (rz r15 g16)))) else (cl (fX5_faulty (1 : Int32) g8) fun r17 g18 => (rz r17 g18)))) FU x1 (0 : Int32) g)
def fX5_tellsLaw (g : Mem) : Option (Int32 × Mem) :=
  cl (fX5_takes (107 : Int32) g) fun r1 g2 => (if r1 = 0 then (some ((0 : Int32), g2)) else (cl (fX5_takesNumber (255 : Int32) (0 : Int32) g2) fun r3 g4 => (if r3 = 0 then (some ((0 : Int32), g4)) else (pf g4 17 1 (g4 5 4) fun g5 => (cl (fX5_takes (44 : Int32) g5) fun r6 g7 => (if r6 = 0 then (some ((0 : Int32), g7)) else (cl (fX5_takesNumber (99 : Int32) (0 : Int32) g7) fun r8 g9 => (if r8 = 0 then (some ((0 : Int32), g9)) else (pf g9 17 2 (g9 5 4) fun g10 => (cl (fX5_takes (59 : Int32) g10) fun r11 g12 => (rz r11 g12)))))))))))
def fX5_tellsThings_L0 (K : Mem → Option (Int32 × Mem)) : Nat → Mem → Option (Int32 × Mem)
  | 0, _ => none
  | n + 1, g => cl (fX5_next g) fun r1 g2 => (if r1 = (116 : Int32) then (if (g2 17 3) < (8 : Int32) then (cl (fX5_takes (116 : Int32) g2) fun r3 g4 => (if r3 = 0 then (some ((0 : Int32), g4)) else (cl (fX5_takesNumber (31 : Int32) (0 : Int32) g4) fun r5 g6 => (if r5 = 0 then (some ((0 : Int32), g6)) else (cl (fX5_takes (59 : Int32) g6) fun r7 g8 => (if r7 = 0 then (some ((0 : Int32), g8)) else (as_ g8 18 8 (g8 17 3) (g8 5 4) fun g9 => (pf g9 17 3 ((g9 17 3) + (1 : Int32)) fun g10 => (fX5_tellsThings_L0 K n  g10))))))))) else (cl (fX5_faulty (3 : Int32) g2) fun r11 g12 => (rz r11 g12))) else (K  g2))
def fX5_tellsThings (g : Mem) : Option (Int32 × Mem) :=
  fX5_tellsThings_L0 (fun g13 => some ((1 : Int32), g13)) FU  g
def fX5_tellsRiddle (a1 : Int32) (g : Mem) : Option (Int32 × Mem) :=
  cl (fX5_next g) fun r1 g2 => (cl (fX2_sortOf r1 g2) fun r3 g4 => (as_ g4 19 6 a1 r3 fun g5 => (pf g5 5 2 ((g5 5 2) + (1 : Int32)) fun g6 => (cl (fX5_takesNumber (31 : Int32) (0 : Int32) g6) fun r7 g8 => (if r7 = 0 then (some ((0 : Int32), g8)) else (as_ g8 20 6 a1 (g8 5 4) fun g9 => (cl (fX5_takes (44 : Int32) g9) fun r10 g11 => (if r10 = 0 then (some ((0 : Int32), g11)) else (al g11 20 6 a1 fun v12 => (cl (fX5_takesNumber (31 : Int32) v12 g11) fun r13 g14 => (if r13 = 0 then (some ((0 : Int32), g14)) else (as_ g14 21 6 a1 (g14 5 4) fun g15 => (al g15 19 6 a1 fun v16 => (al g15 20 6 a1 fun v17 => (cl (fX2_thingsFitting 17 v16 v17 (g15 5 4) g15) fun r18 g19 => (as_ g19 22 6 a1 r18 fun g20 => (cl (fX5_takes (59 : Int32) g20) fun r21 g22 => (rz r21 g22))))))))))))))))))
def fX5_tellsRiddles_L0 (K : Mem → Option (Int32 × Mem)) : Nat → Mem → Option (Int32 × Mem)
  | 0, _ => none
  | n + 1, g => cl (fX5_next g) fun r1 g2 => (cl (fX2_sortOf r1 g2) fun r3 g4 => (if r3 = 0 then (K  g4) else (if (g4 17 5) < (6 : Int32) then (cl (fX5_tellsRiddle (g4 17 5) g4) fun r5 g6 => (if r5 = 0 then (some ((0 : Int32), g6)) else (pf g6 17 5 ((g6 17 5) + (1 : Int32)) fun g7 => (fX5_tellsRiddles_L0 K n  g7)))) else (cl (fX5_faulty (3 : Int32) g4) fun r8 g9 => (rz r8 g9)))))
def fX5_tellsRiddles (g : Mem) : Option (Int32 × Mem) :=
  fX5_tellsRiddles_L0 (fun g10 => some ((1 : Int32), g10)) FU  g
def fX5_tellsSuitors_L0 (K : Mem → Option (Int32 × Mem)) : Nat → Mem → Option (Int32 × Mem)
  | 0, _ => none
  | n + 1, g => cl (fX5_next g) fun r1 g2 => (if r1 = (119 : Int32) then (if (g2 17 10) < (4 : Int32) then (cl (fX5_takes (119 : Int32) g2) fun r3 g4 => (if r3 = 0 then (some ((0 : Int32), g4)) else (cl (fX2_allThings 17 g4) fun r5 g6 => (cl (fX5_takesNumber r5 (0 : Int32) g6) fun r7 g8 => (if r7 = 0 then (some ((0 : Int32), g8)) else (cl (fX5_takes (59 : Int32) g8) fun r9 g10 => (if r9 = 0 then (some ((0 : Int32), g10)) else (as_ g10 23 4 (g10 17 10) (g10 5 4) fun g11 => (pf g11 17 10 ((g11 17 10) + (1 : Int32)) fun g12 => (fX5_tellsSuitors_L0 K n  g12)))))))))) else (cl (fX5_faulty (3 : Int32) g2) fun r13 g14 => (rz r13 g14))) else (K  g2))
def fX5_tellsSuitors (g : Mem) : Option (Int32 × Mem) :=
  fX5_tellsSuitors_L0 (fun g15 => some ((1 : Int32), g15)) FU  g
def fX5_tells (g : Mem) : Option (Int32 × Mem) :=
  pf g 5 2 (0 : Int32) fun g1 => (cl (fX2_clear 17 g1) fun r2 g3 => (cl (fX5_tellsLaw g3) fun r4 g5 => (if r4 = 0 then (some ((0 : Int32), g5)) else (cl (fX5_tellsThings g5) fun r6 g7 => (if r6 = 0 then (some ((0 : Int32), g7)) else (cl (fX5_tellsRiddles g7) fun r8 g9 => (if r8 = 0 then (some ((0 : Int32), g9)) else (cl (fX5_tellsSuitors g9) fun r10 g11 => (if r10 = 0 then (some ((0 : Int32), g11)) else (cl (fX2_allThings 17 g11) fun r12 g13 => (pf g13 17 1 ((g11 17 1) &&& r12) fun g14 => (cl (fX5_next g14) fun r15 g16 => (if r15 = (-1 : Int32) then (some ((1 : Int32), g16)) else (cl (fX5_faulty (1 : Int32) g16) fun r17 g18 => (if r17 = 0 then (some ((0 : Int32), g18)) else (some ((1 : Int32), g18)))))))))))))))))
def fX6_below (a0 : Int32) (a1 : Int32) (g : Mem) : Option (Int32 × Mem) :=
  if a0 < 0 then (some ((0 : Int32), g)) else (if a1 ≤ a0 then (some ((0 : Int32), g)) else (some ((1 : Int32), g)))
def fX6_found (a0 : Int32) (g : Mem) : Option (Int32 × Mem) :=
  pf g 0 10 a0 fun g1 => (some (((-1000010 : Int32) - a0), g1))
def fX6_clean (a0 : Int32) (g : Mem) : Option (Int32 × Mem) :=
  pf g 0 10 (0 : Int32) fun g1 => (some (a0, g1))
def fX6_row (a0 : Int32) (a1 : Int32) (a2 : Int32) (g : Mem) : Option (Int32 × Mem) :=
  cl (fX6_below a0 (8 : Int32) g) fun r1 g2 => (if r1 = 0 then (some ((-1000001 : Int32), g2)) else (cl (fX6_below a1 (3 : Int32) g2) fun r3 g4 => (if r3 = 0 then (some ((-1000001 : Int32), g4)) else (if a2 ≤ (40 : Int32) then (if 0 ≤ a2 then (cl (fX4_lay a0 a1 a2 g4) fun r5 g6 => (cl (fX6_clean a2 g6) fun r7 g8 => (some (r7, g8)))) else (cl (fX6_found (4 : Int32) g4) fun r9 g10 => (some (r9, g10)))) else (some ((-1000001 : Int32), g4))))))
def fX6_set (a0 : Int32) (a1 : Int32) (a2 : Int32) (g : Mem) : Option (Int32 × Mem) :=
  cl (fX6_below a0 (8 : Int32) g) fun r1 g2 => (if r1 = 0 then (some ((-1000001 : Int32), g2)) else (cl (fX4_isMissing a0 g2) fun r3 g4 => (if r3 = 0 then (cl (fX4_hasPlaces a0 a1 (1 : Int32) g4) fun r5 g6 => (if r5 = 0 then (cl (fX6_found (2 : Int32) g6) fun r7 g8 => (some (r7, g8))) else (cl (fX4_put a0 a1 a2 g6) fun r9 g10 => (cl (fX6_clean r9 g10) fun r11 g12 => (some (r11, g12)))))) else (cl (fX6_found (1 : Int32) g4) fun r13 g14 => (some (r13, g14))))))
def fX6_copy (a0 : Int32) (a1 : Int32) (a2 : Int32) (a3 : Int32) (a4 : Int32) (g : Mem) : Option (Int32 × Mem) :=
  cl (fX6_below a0 (8 : Int32) g) fun r1 g2 => (if r1 = 0 then (some ((-1000001 : Int32), g2)) else (cl (fX6_below a2 (8 : Int32) g2) fun r3 g4 => (if r3 = 0 then (some ((-1000001 : Int32), g4)) else (cl (fX4_isMissing a0 g4) fun r5 g6 => (if r5 = 0 then (cl (fX4_isMissing a2 g6) fun r7 g8 => (if r7 = 0 then (cl (fX4_areAlike a0 a2 g8) fun r9 g10 => (if r9 = 0 then (cl (fX6_found (5 : Int32) g10) fun r11 g12 => (some (r11, g12))) else (cl (fX4_hasPlaces a0 a1 a4 g10) fun r13 g14 => (if r13 = 0 then (cl (fX6_found (2 : Int32) g14) fun r15 g16 => (some (r15, g16))) else (cl (fX4_hasPlaces a2 a3 a4 g14) fun r17 g18 => (if r17 = 0 then (cl (fX6_found (2 : Int32) g18) fun r19 g20 => (some (r19, g20))) else (cl (fX4_move a0 a1 a2 a3 a4 g18) fun r21 g22 => (cl (fX6_clean a4 g22) fun r23 g24 => (some (r23, g24)))))))))) else (cl (fX6_found (1 : Int32) g8) fun r25 g26 => (some (r25, g26))))) else (cl (fX6_found (1 : Int32) g6) fun r27 g28 => (some (r27, g28))))))))
def fX6_drop (a0 : Int32) (g : Mem) : Option (Int32 × Mem) :=
  cl (fX6_below a0 (8 : Int32) g) fun r1 g2 => (if r1 = 0 then (some ((-1000001 : Int32), g2)) else (cl (fX4_isMissing a0 g2) fun r3 g4 => (if r3 = 0 then (cl (fX4_lose a0 g4) fun r5 g6 => (cl (fX6_clean r5 g6) fun r7 g8 => (some (r7, g8)))) else (cl (fX6_found (1 : Int32) g4) fun r9 g10 => (some (r9, g10))))))
def fX6_feed (a0 : Int32) (g : Mem) : Option (Int32 × Mem) :=
  cl (fX6_below a0 (256 : Int32) g) fun r1 g2 => (if r1 = 0 then (some ((-1000001 : Int32), g2)) else (cl (fX5_add a0 g2) fun r3 g4 => (some (r3, g4))))
def fX6_court (g : Mem) : Option (Int32 × Mem) :=
  cl (fX5_tells g) fun r1 g2 => (cl (fX5_clear g2) fun r3 g4 => (if r1 = 0 then (pf g4 0 9 (g4 5 3) fun g5 => (some (((-1000100 : Int32) - (g5 5 2)), g5))) else (cl (fX2_become 7 17 g4) fun r6 g7 => (cl (fX0_forget g7) fun r8 g9 => (some ((g9 7 10), g9))))))
def fX6_fault (g : Mem) : Option (Int32 × Mem) :=
  some ((g 0 9), g)
def fX6_asked (a0 : Int32) (a1 : Int32) (g : Mem) : Option (Int32 × Mem) :=
  cl (fX6_below a0 (g 7 10) g) fun r1 g2 => (if r1 = 0 then (some ((-1000001 : Int32), g2)) else (cl (fX6_below a1 (g2 7 5) g2) fun r3 g4 => (if r3 = 0 then (some ((-1000001 : Int32), g4)) else (cl (fX2_comes 7 a0 g4) fun r5 g6 => (if r5 = 0 then (some ((-1000002 : Int32), g6)) else (cl (fX2_wasUsed 7 a1 g6) fun r7 g8 => (if r7 = 0 then (cl (fX2_isOneWed 7 g8) fun r9 g10 => (if r9 = 0 then (cl (fX0_keep a0 g10) fun r11 g12 => (cl (fX2_answerHer 7 a0 a1 g12) fun r13 g14 => (some (r13, g14)))) else (some ((-1000002 : Int32), g10)))) else (some ((-1000002 : Int32), g8)))))))))
def fX6_inTurn (a0 : Int32) (a1 : Int32) (g : Mem) : Option (Int32 × Mem) :=
  cl (fX6_below a0 (g 7 10) g) fun r1 g2 => (if r1 = 0 then (some ((-1000001 : Int32), g2)) else (cl (fX6_below a1 (g2 7 5) g2) fun r3 g4 => (if r3 = 0 then (some ((-1000001 : Int32), g4)) else (cl (fX2_comes 7 a0 g4) fun r5 g6 => (if r5 = 0 then (some ((-1000002 : Int32), g6)) else (cl (fX2_wasUsed 7 a1 g6) fun r7 g8 => (if r7 = 0 then (al g8 16 4 a0 fun v9 => (if v9 = 0 then (cl (fX2_isOneWed 7 g8) fun r10 g11 => (if r10 = 0 then (cl (fX0_keep a0 g11) fun r12 g13 => (cl (fX2_askHer 7 a0 a1 g13) fun r14 g15 => (some (r14, g15)))) else (some ((-1000002 : Int32), g11)))) else (some ((-1000002 : Int32), g8)))) else (some ((-1000002 : Int32), g8)))))))))
def fX6_buy (a0 : Int32) (a1 : Int32) (g : Mem) : Option (Int32 × Mem) :=
  cl (fX6_below a0 (g 7 10) g) fun r1 g2 => (if r1 = 0 then (some ((-1000001 : Int32), g2)) else (cl (fX6_below a1 (g2 7 3) g2) fun r3 g4 => (if r3 = 0 then (some ((-1000001 : Int32), g4)) else (cl (fX2_comes 7 a0 g4) fun r5 g6 => (if r5 = 0 then (some ((-1000002 : Int32), g6)) else (cl (fX2_isKnown 7 a0 a1 g6) fun r7 g8 => (if r7 = 0 then (cl (fX0_keep a0 g8) fun r9 g10 => (cl (fX2_sell 7 a0 a1 g10) fun r11 g12 => (some (r11, g12)))) else (some ((-1000002 : Int32), g8)))))))))
def fX6_undo (g : Mem) : Option (Int32 × Mem) :=
  if (g 48 7) = 0 then (some ((-1000002 : Int32), g)) else (cl (fX0_takeBack g) fun r1 g2 => (some ((g2 48 7), g2)))
def fX6_thing (a0 : Int32) (g : Mem) : Option (Int32 × Mem) :=
  cl (fX6_below a0 (g 7 3) g) fun r1 g2 => (if r1 = 0 then (some ((-1000001 : Int32), g2)) else (al g2 8 8 a0 fun v3 => (some (v3, g2))))
def fX6_riddle (a0 : Int32) (a1 : Int32) (g : Mem) : Option (Int32 × Mem) :=
  cl (fX6_below a0 (g 7 5) g) fun r1 g2 => (if r1 = 0 then (some ((-1000001 : Int32), g2)) else (if a1 = (0 : Int32) then (al g2 10 6 a0 fun v4 => (some (v4, g2))) else (if a1 = (1 : Int32) then (al g2 11 6 a0 fun v6 => (some (v6, g2))) else (if a1 = (2 : Int32) then (al g2 12 6 a0 fun v8 => (some (v8, g2))) else (if a1 = (3 : Int32) then (cl (fX2_answer 7 a0 g2) fun r10 g11 => (some (r10, g11))) else (if a1 = (4 : Int32) then (cl (fX2_wasUsed 7 a0 g2) fun r13 g14 => (if r13 = 0 then (some ((0 : Int32), g14)) else (some ((1 : Int32), g14)))) else (if a1 = (5 : Int32) then (al g2 12 6 a0 fun v16 => (cl (fJ6_bitCount_0f7a4 v16 g2) fun r17 g18 => (if r17 = (1 : Int32) then (some ((1 : Int32), g18)) else (some ((0 : Int32), g18))))) else (if a1 = (6 : Int32) then (cl (fX2_sheSays 7 a0 g2) fun r20 g21 => (some (r20, g21))) else (some ((-1000001 : Int32), g2))))))))))
def fX6_suitor (a0 : Int32) (a1 : Int32) (g : Mem) : Option (Int32 × Mem) :=
  cl (fX6_below a0 (g 7 10) g) fun r1 g2 => (if r1 = 0 then (some ((-1000001 : Int32), g2)) else (if a1 = (0 : Int32) then (al g2 13 4 a0 fun v4 => (some (v4, g2))) else (if a1 = (1 : Int32) then (al g2 14 4 a0 fun v6 => (some (v6, g2))) else (if a1 = (2 : Int32) then (al g2 15 4 a0 fun v8 => (some (v8, g2))) else (if a1 = (3 : Int32) then (al g2 16 4 a0 fun v10 => (some (v10, g2))) else (some ((-1000001 : Int32), g2)))))))
def fX6_says (a0 : Int32) (a1 : Int32) (g : Mem) : Option (Int32 × Mem) :=
  cl (fX6_below a0 (g 7 10) g) fun r1 g2 => (if r1 = 0 then (some ((-1000001 : Int32), g2)) else (cl (fX6_below a1 (g2 7 5) g2) fun r3 g4 => (if r3 = 0 then (some ((-1000001 : Int32), g4)) else (cl (fX2_heSays 7 a0 a1 g4) fun r5 g6 => (some (r5, g6))))))
def fX6_riddleFor (a0 : Int32) (a1 : Int32) (a2 : Int32) (g : Mem) : Option (Int32 × Mem) :=
  cl (fX6_below a0 (g 7 10) g) fun r1 g2 => (if r1 = 0 then (some ((-1000001 : Int32), g2)) else (cl (fX2_isSort a1 g2) fun r3 g4 => (if r3 = 0 then (some ((-1000001 : Int32), g4)) else (cl (fX6_below a2 (2 : Int32) g4) fun r5 g6 => (if r5 = 0 then (some ((-1000001 : Int32), g6)) else (cl (fX3_riddleAgainst a0 a1 a2 g6) fun r7 g8 => (some (r7, g8))))))))
def fX6_hard (a0 : Int32) (a1 : Int32) (g : Mem) : Option (Int32 × Mem) :=
  if (g 7 0) = 0 then (some ((-1000002 : Int32), g)) else (cl (fX2_isSort a0 g) fun r1 g2 => (if r1 = 0 then (some ((-1000001 : Int32), g2)) else (cl (fX6_below a1 (2 : Int32) g2) fun r3 g4 => (if r3 = 0 then (some ((-1000001 : Int32), g4)) else (cl (fX3_hardest a0 a1 g4) fun r5 g6 => (some (r5, g6)))))))
def fX6_chance (a0 : Int32) (a1 : Int32) (g : Mem) : Option (Int32 × Mem) :=
  cl (fX6_below a0 (g 7 10) g) fun r1 g2 => (if r1 = 0 then (some ((-1000001 : Int32), g2)) else (cl (fX6_below a1 (2 : Int32) g2) fun r3 g4 => (if r3 = 0 then (some ((-1000001 : Int32), g4)) else (cl (fX2_comes 7 a0 g4) fun r5 g6 => (if r5 = 0 then (some ((-1000002 : Int32), g6)) else (cl (fX3_likelihood a0 a1 g6) fun r7 g8 => (some (r7, g8))))))))
def fX6_toBuy (a0 : Int32) (a1 : Int32) (g : Mem) : Option (Int32 × Mem) :=
  cl (fX6_below a0 (g 7 10) g) fun r1 g2 => (if r1 = 0 then (some ((-1000001 : Int32), g2)) else (cl (fX6_below a1 (2 : Int32) g2) fun r3 g4 => (if r3 = 0 then (some ((-1000001 : Int32), g4)) else (cl (fX3_wanted a0 g4) fun r5 g6 => (if a1 = 0 then (some (r5, g6)) else (cl (fX2_costOfAll 7 r5 g6) fun r7 g8 => (some (r7, g8))))))))
def fX6_beats (g : Mem) : Option (Int32 × Mem) :=
  if (g 7 0) = 0 then (some ((-1000002 : Int32), g)) else (cl (fX3_beating g) fun r1 g2 => (some (r1, g2)))
def fX6_tree (a0 : Int32) (a1 : Int32) (g : Mem) : Option (Int32 × Mem) :=
  if (g 7 0) = 0 then (some ((-1000002 : Int32), g)) else (cl (fX6_below a0 ((1 : Int32) <<< ((g 7 3) &&& 31)) g) fun r1 g2 => (if r1 = 0 then (some ((-1000001 : Int32), g2)) else (cl (fX6_below a1 (2 : Int32) g2) fun r3 g4 => (if r3 = 0 then (some ((-1000001 : Int32), g4)) else (cl (fX3_fewestQuestions a0 a1 g4) fun r5 g6 => (some (r5, g6)))))))
def fX6_said_L88 (l1 : Int32) (l2 : Int32) (l3 : Int32) (l4 : Int32) (l5 : Int32) (K : Int32 → Mem → Option (Int32 × Mem)) : Nat → Int32 → Mem → Option (Int32 × Mem)
  | 0, _, _ => none
  | n + 1, l6, g => if l4 ≤ l6 then (K l6 g) else (cl (fX4_at l2 (l3 + l6) g) fun r13 g14 => (as_ g14 60 6 l6 r13 fun g15 => (al g15 60 6 l6 fun v16 => (if v16 = (-1 : Int32) then (fX6_said_L88 l1 l2 l3 l4 l5 K n (l6 + (1 : Int32)) g15) else (al g15 60 6 l6 fun v17 => (cl (fX6_below v17 (g15 7 3) g15) fun r18 g19 => (if r18 = 0 then (some ((-1000001 : Int32), g19)) else (fX6_said_L88 l1 l2 l3 l4 l5 K n (l6 + (1 : Int32)) g19))))))))
def fX6_said (a0 : Int32) (a1 : Int32) (a2 : Int32) (a3 : Int32) (a4 : Int32) (g : Mem) : Option (Int32 × Mem) :=
  cl (fX6_below a0 (g 7 10) g) fun r1 g2 => (if r1 = 0 then (some ((-1000001 : Int32), g2)) else (cl (fX6_below a1 (8 : Int32) g2) fun r3 g4 => (if r3 = 0 then (some ((-1000001 : Int32), g4)) else (if a3 < (1 : Int32) then (some ((-1000001 : Int32), g4)) else (if (6 : Int32) < a3 then (some ((-1000001 : Int32), g4)) else (cl (fX6_below a4 (2 : Int32) g4) fun r5 g6 => (if r5 = 0 then (some ((-1000001 : Int32), g6)) else (cl (fX4_isMissing a1 g6) fun r7 g8 => (if r7 = 0 then (cl (fX4_hasPlaces a1 a2 a3 g8) fun r9 g10 => (if r9 = 0 then (cl (fX6_found (2 : Int32) g10) fun r11 g12 => (some (r11, g12))) else (fX6_said_L88 a0 a1 a2 a3 a4 (fun l20 g21 => cl (fX3_riddlesHeard a0 60 6 a3 a4 g21) fun r22 g23 => (cl (fX6_clean r22 g23) fun r24 g25 => (some (r24, g25)))) FU (0 : Int32) g10))) else (cl (fX6_found (1 : Int32) g8) fun r26 g27 => (some (r26, g27))))))))))))
def fX6_image (a0 : Int32) (g : Mem) : Option (Int32 × Mem) :=
  cl (fX6_below a0 (2 : Int32) g) fun r1 g2 => (if r1 = 0 then (some ((-1000001 : Int32), g2)) else (if (g2 7 0) = 0 then (some ((-1000002 : Int32), g2)) else (r2 a0 (cl (fX2_become 28 7 g2) fun r3 g4 => (some ((1 : Int32), g4))) (cl (fX2_become 38 7 g2) fun r5 g6 => (some ((1 : Int32), g6))))))
def fX6_restore (a0 : Int32) (g : Mem) : Option (Int32 × Mem) :=
  cl (fX6_below a0 (2 : Int32) g) fun r1 g2 => (if r1 = 0 then (some ((-1000001 : Int32), g2)) else (r2 a0 (if (g2 28 0) = 0 then (some ((-1000002 : Int32), g2)) else (r2 a0 (cl (fX2_become 7 28 g2) fun r3 g4 => (cl (fX0_forget g4) fun r5 g6 => (some ((1 : Int32), g6)))) (cl (fX2_become 7 38 g2) fun r7 g8 => (cl (fX0_forget g8) fun r9 g10 => (some ((1 : Int32), g10)))))) (if (g2 38 0) = 0 then (some ((-1000002 : Int32), g2)) else (r2 a0 (cl (fX2_become 7 28 g2) fun r11 g12 => (cl (fX0_forget g12) fun r13 g14 => (some ((1 : Int32), g14)))) (cl (fX2_become 7 38 g2) fun r15 g16 => (cl (fX0_forget g16) fun r17 g18 => (some ((1 : Int32), g18))))))))
def fX6_kind (a0 : Int32) (g : Mem) : Option (Int32 × Mem) :=
  cl (fX6_below a0 (g 7 5) g) fun r1 g2 => (if r1 = 0 then (some ((-1000001 : Int32), g2)) else (al g2 9 6 a0 fun v3 => (some (v3, g2))))
def fX6_as (a0 : Int32) (a1 : Int32) (g : Mem) : Option (Int32 × Mem) :=
  cl (fX6_below a0 (g 7 5) g) fun r1 g2 => (if r1 = 0 then (some ((-1000001 : Int32), g2)) else (cl (fX6_below a1 (6 : Int32) g2) fun r3 g4 => (if r3 = 0 then (some ((-1000001 : Int32), g4)) else (al g4 9 6 a0 fun v5 => (cl (fX2_isOfKind v5 a1 g4) fun r6 g7 => (if r6 = 0 then (cl (fX6_found (3 : Int32) g7) fun r8 g9 => (some (r8, g9))) else (cl (fX6_clean a0 g7) fun r10 g11 => (some (r10, g11)))))))))
def fX6_ask (a0 : Int32) (a1 : Int32) (g : Mem) : Option (Int32 × Mem) :=
  cl (fX6_below a0 (g 7 5) g) fun r1 g2 => (if r1 = 0 then (some ((-1000001 : Int32), g2)) else (cl (fX6_below a1 (2 : Int32) g2) fun r3 g4 => (if r3 = 0 then (some ((-1000001 : Int32), g4)) else (cl (fX1_begin a0 a1 g4) fun r5 g6 => (some (r5, g6))))))
def fX6_trace (a0 : Int32) (g : Mem) : Option (Int32 × Mem) :=
  cl (fX1_left a0 g) fun r1 g2 => (some (r1, g2))
def fX6_count (a0 : Int32) (g : Mem) : Option (Int32 × Mem) :=
  if a0 = (0 : Int32) then (cl (fX4_present g) fun r2 g3 => (some (r2, g3))) else (if a0 = (1 : Int32) then (some ((g 7 3), g)) else (if a0 = (2 : Int32) then (some ((g 7 5), g)) else (if a0 = (3 : Int32) then (some ((g 7 10), g)) else (if a0 = (4 : Int32) then (some ((g 7 15), g)) else (if a0 = (5 : Int32) then (cl (fX2_countOfFate 7 (1 : Int32) g) fun r9 g10 => (some (r9, g10))) else (if a0 = (6 : Int32) then (some ((g 7 16), g)) else (if a0 = (7 : Int32) then (some ((g 7 1), g)) else (if a0 = (8 : Int32) then (some ((g 48 7), g)) else (if a0 = (9 : Int32) then (some ((g 5 1), g)) else (some ((-1000001 : Int32), g)))))))))))
def fX6_status (g : Mem) : Option (Int32 × Mem) :=
  some ((g 0 10), g)
def fX7_in (a0 : Int32) (a1 : Int32) (a2 : Int32) (g : Mem) : Option (Int32 × Mem) :=
  if a0 < a1 then (some ((0 : Int32), g)) else (if a2 < a0 then (some ((0 : Int32), g)) else (some ((1 : Int32), g)))
def fX7_has (a0 : Int32) (a1 : Int32) (g : Mem) : Option (Int32 × Mem) :=
  if ((a0 >>> (a1 &&& 31)) &&& (1 : Int32)) = (1 : Int32) then (some ((1 : Int32), g)) else (some ((0 : Int32), g))
def fX7_bits_L4 (l0 : Int32) (K : Int32 → Int32 → Mem → Option (Int32 × Mem)) : Nat → Int32 → Int32 → Mem → Option (Int32 × Mem)
  | 0, _, _, _ => none
  | n + 1, l1, l2, g => if (8 : Int32) ≤ l2 then (K l1 l2 g) else (lt ((l1 + ((l0 >>> (l2 &&& 31)) &&& (1 : Int32)))) fun x1 => (fX7_bits_L4 l0 K n x1 (l2 + (1 : Int32)) g))
def fX7_bits (a0 : Int32) (g : Mem) : Option (Int32 × Mem) :=
  fX7_bits_L4 a0 (fun l2 l3 g4 => some (l2, g4)) FU (0 : Int32) (0 : Int32) g
def fX7_finds (a0 : Int32) (g : Mem) : Option (Int32 × Mem) :=
  pf g 61 3 a0 fun g1 => (some (((-1000010 : Int32) - a0), g1))
def fX7_done (a0 : Int32) (g : Mem) : Option (Int32 × Mem) :=
  pf g 61 3 (0 : Int32) fun g1 => (some (a0, g1))
def fX7_isRow (a0 : Int32) (g : Mem) : Option (Int32 × Mem) :=
  cl (fX7_in a0 (0 : Int32) (7 : Int32) g) fun r1 g2 => (rz r1 g2)
def fX7_row_L52 (l1 : Int32) (l2 : Int32) (l3 : Int32) (K : Int32 → Mem → Option (Int32 × Mem)) : Nat → Int32 → Mem → Option (Int32 × Mem)
  | 0, _, _ => none
  | n + 1, l4, g => if (40 : Int32) ≤ l4 then (K l4 g) else (as_ g 64 320 (((40 : Int32) * l1) + l4) (0 : Int32) fun g7 => (fX7_row_L52 l1 l2 l3 K n (l4 + (1 : Int32)) g7))
def fX7_row (a0 : Int32) (a1 : Int32) (a2 : Int32) (g : Mem) : Option (Int32 × Mem) :=
  cl (fX7_isRow a0 g) fun r1 g2 => (if r1 = 0 then (some ((-1000001 : Int32), g2)) else (cl (fX7_in a1 (0 : Int32) (2 : Int32) g2) fun r3 g4 => (if r3 = 0 then (some ((-1000001 : Int32), g4)) else (if a2 ≤ (40 : Int32) then (if 0 ≤ a2 then (as_ g4 62 8 a0 a1 fun g5 => (as_ g5 63 8 a0 a2 fun g6 => (fX7_row_L52 a0 a1 a2 (fun l8 g9 => cl (fX7_done a2 g9) fun r10 g11 => (some (r10, g11))) FU (0 : Int32) g6))) else (cl (fX7_finds (4 : Int32) g4) fun r12 g13 => (some (r12, g13)))) else (some ((-1000001 : Int32), g4))))))
def fX7_set (a0 : Int32) (a1 : Int32) (a2 : Int32) (g : Mem) : Option (Int32 × Mem) :=
  cl (fX7_isRow a0 g) fun r1 g2 => (if r1 = 0 then (some ((-1000001 : Int32), g2)) else (al g2 62 8 a0 fun v3 => (if 0 ≤ v3 then (al g2 63 8 a0 fun v4 => (cl (fX7_in a1 (0 : Int32) (v4 - (1 : Int32)) g2) fun r5 g6 => (if r5 = 0 then (cl (fX7_finds (2 : Int32) g6) fun r7 g8 => (some (r7, g8))) else (al g6 62 8 a0 fun v9 => (if v9 = 0 then (as_ g6 64 320 (((40 : Int32) * a0) + a1) (a2.toInt8.toInt32) fun g10 => (al g10 64 320 (((40 : Int32) * a0) + a1) fun v11 => (cl (fX7_done v11 g10) fun r12 g13 => (some (r12, g13))))) else (al g6 62 8 a0 fun v14 => (if v14 = (1 : Int32) then (as_ g6 64 320 (((40 : Int32) * a0) + a1) (a2.toInt16.toInt32) fun g15 => (al g15 64 320 (((40 : Int32) * a0) + a1) fun v16 => (cl (fX7_done v16 g15) fun r17 g18 => (some (r17, g18))))) else (as_ g6 64 320 (((40 : Int32) * a0) + a1) a2 fun g19 => (al g19 64 320 (((40 : Int32) * a0) + a1) fun v20 => (cl (fX7_done v20 g19) fun r21 g22 => (some (r21, g22)))))))))))) else (cl (fX7_finds (1 : Int32) g2) fun r23 g24 => (some (r23, g24))))))
def fX7_isPart (a0 : Int32) (a1 : Int32) (a2 : Int32) (g : Mem) : Option (Int32 × Mem) :=
  if a0 < 0 then (some ((0 : Int32), g)) else (if a1 < 0 then (some ((0 : Int32), g)) else (if a2 < a1 then (some ((0 : Int32), g)) else (if (a2 - a1) < a0 then (some ((0 : Int32), g)) else (some ((1 : Int32), g)))))
def fX7_copy_L120 (l1 : Int32) (l2 : Int32) (l3 : Int32) (l4 : Int32) (l5 : Int32) (l6 : Int32) (K : Int32 → Mem → Option (Int32 × Mem)) : Nat → Int32 → Mem → Option (Int32 × Mem)
  | 0, _, _ => none
  | n + 1, l7, g => if l5 ≤ l7 then (K l7 g) else (if l6 = 0 then (al g 64 320 ((((40 : Int32) * l1) + l2) + l7) fun v21 => (as_ g 64 320 ((((40 : Int32) * l3) + l4) + l7) v21 fun g22 => (fX7_copy_L120 l1 l2 l3 l4 l5 l6 K n (l7 + (1 : Int32)) g22))) else (lt (((l5 - (1 : Int32)) - l7)) fun x23 => (al g 64 320 ((((40 : Int32) * l1) + l2) + x23) fun v24 => (as_ g 64 320 ((((40 : Int32) * l3) + l4) + x23) v24 fun g25 => (fX7_copy_L120 l1 l2 l3 l4 l5 l6 K n (l7 + (1 : Int32)) g25)))))
def fX7_copy (a0 : Int32) (a1 : Int32) (a2 : Int32) (a3 : Int32) (a4 : Int32) (g : Mem) : Option (Int32 × Mem) :=
  cl (fX7_isRow a0 g) fun r1 g2 => (if r1 = 0 then (some ((-1000001 : Int32), g2)) else (cl (fX7_isRow a2 g2) fun r3 g4 => (if r3 = 0 then (some ((-1000001 : Int32), g4)) else (al g4 62 8 a0 fun v5 => (if v5 < 0 then (cl (fX7_finds (1 : Int32) g4) fun r6 g7 => (some (r6, g7))) else (al g4 62 8 a2 fun v8 => (if 0 ≤ v8 then (al g4 62 8 a0 fun v9 => (al g4 62 8 a2 fun v10 => (if v9 = v10 then (al g4 63 8 a0 fun v11 => (cl (fX7_isPart a1 a4 v11 g4) fun r12 g13 => (if r12 = 0 then (cl (fX7_finds (2 : Int32) g13) fun r14 g15 => (some (r14, g15))) else (al g13 63 8 a2 fun v16 => (cl (fX7_isPart a3 a4 v16 g13) fun r17 g18 => (if r17 = 0 then (cl (fX7_finds (2 : Int32) g18) fun r19 g20 => (some (r19, g20))) else (if a0 = a2 then (if a3 ≤ a1 then (fX7_copy_L120 a0 a1 a2 a3 a4 (0 : Int32) (fun l26 g27 => cl (fX7_done a4 g27) fun r28 g29 => (some (r28, g29))) FU (0 : Int32) g18) else (fX7_copy_L120 a0 a1 a2 a3 a4 (1 : Int32) (fun l30 g31 => cl (fX7_done a4 g31) fun r32 g33 => (some (r32, g33))) FU (0 : Int32) g18)) else (fX7_copy_L120 a0 a1 a2 a3 a4 (0 : Int32) (fun l34 g35 => cl (fX7_done a4 g35) fun r36 g37 => (some (r36, g37))) FU (0 : Int32) g18)))))))) else (cl (fX7_finds (5 : Int32) g4) fun r38 g39 => (some (r38, g39)))))) else (cl (fX7_finds (1 : Int32) g4) fun r40 g41 => (some (r40, g41))))))))))
def fX7_drop (a0 : Int32) (g : Mem) : Option (Int32 × Mem) :=
  cl (fX7_isRow a0 g) fun r1 g2 => (if r1 = 0 then (some ((-1000001 : Int32), g2)) else (al g2 62 8 a0 fun v3 => (if 0 ≤ v3 then (as_ g2 62 8 a0 (-1 : Int32) fun g4 => (al g4 63 8 a0 fun v5 => (cl (fX7_done v5 g4) fun r6 g7 => (some (r6, g7))))) else (cl (fX7_finds (1 : Int32) g2) fun r8 g9 => (some (r8, g9))))))
def fX7_feed (a0 : Int32) (g : Mem) : Option (Int32 × Mem) :=
  cl (fX7_in a0 (0 : Int32) (255 : Int32) g) fun r1 g2 => (if r1 = 0 then (some ((-1000001 : Int32), g2)) else (if (g2 61 4) = (120 : Int32) then (some ((-1000003 : Int32), g2)) else (as_ g2 65 120 (g2 61 4) a0 fun g3 => (pf g3 61 4 ((g3 61 4) + (1 : Int32)) fun g4 => (some ((g4 61 4), g4))))))
def fX7_nextToken_L52 (K : Mem → Option (Int32 × Mem)) : Nat → Mem → Option (Int32 × Mem)
  | 0, _ => none
  | n + 1, g => if (g 61 4) ≤ (g 61 6) then (K  g) else (al g 65 120 (g 61 6) fun v18 => (cl (fX7_in v18 (48 : Int32) (57 : Int32) g) fun r19 g20 => (if r19 = 0 then (K  g20) else (if (3 : Int32) ≤ ((g20 61 6) - (g20 61 7)) then (pf g20 61 9 (g20 61 9) fun g21 => (pf g21 61 6 ((g21 61 6) + (1 : Int32)) fun g22 => (fX7_nextToken_L52 K n  g22))) else (al g20 65 120 (g20 61 6) fun v23 => (pf g20 61 9 ((((10 : Int32) * (g20 61 9)) + v23) - (48 : Int32)) fun g24 => (pf g24 61 6 ((g24 61 6) + (1 : Int32)) fun g25 => (fX7_nextToken_L52 K n  g25))))))))
def fX7_nextToken (g : Mem) : Option (Int32 × Mem) :=
  pf g 61 7 (g 61 6) fun g1 => (pf g1 61 9 (0 : Int32) fun g2 => (if (g2 61 6) = (g2 61 4) then (pf g2 61 8 (-2 : Int32) fun g3 => (some (0, g3))) else (al g2 65 120 (g2 61 6) fun v4 => (cl (fX7_in v4 (48 : Int32) (57 : Int32) g2) fun r5 g6 => (if r5 = 0 then (al g6 65 120 (g6 61 6) fun v7 => (cl (fX7_in v7 (97 : Int32) (122 : Int32) g6) fun r8 g9 => (if r8 = 0 then (if v7 = (44 : Int32) then (pf g9 61 8 v7 fun g10 => (pf g10 61 6 ((g10 61 6) + (1 : Int32)) fun g11 => (some (0, g11)))) else (if v7 = (59 : Int32) then (pf g9 61 8 v7 fun g12 => (pf g12 61 6 ((g12 61 6) + (1 : Int32)) fun g13 => (some (0, g13)))) else (pf g9 61 8 (-3 : Int32) fun g14 => (pf g14 61 6 ((g14 61 6) + (1 : Int32)) fun g15 => (some (0, g15)))))) else (pf g9 61 8 v7 fun g16 => (pf g16 61 6 ((g16 61 6) + (1 : Int32)) fun g17 => (some (0, g17))))))) else (fX7_nextToken_L52 (fun g26 => if ((g26 61 6) - (g26 61 7)) ≤ (3 : Int32) then (pf g26 61 8 (-1 : Int32) fun g27 => (some (0, g27))) else (pf g26 61 8 (-3 : Int32) fun g28 => (some (0, g28)))) FU  g6))))))
def fX7_fails (a0 : Int32) (g : Mem) : Option (Int32 × Mem) :=
  pf g 61 11 a0 fun g1 => (some ((0 : Int32), g1))
def fX7_isNumber (a0 : Int32) (g : Mem) : Option (Int32 × Mem) :=
  cl (fX7_nextToken g) fun r1 g2 => (if (g2 61 8) = (-1 : Int32) then (if (g2 61 9) ≤ a0 then (some ((1 : Int32), g2)) else (cl (fX7_fails (2 : Int32) g2) fun r3 g4 => (if r3 = 0 then (some ((0 : Int32), g4)) else (some ((1 : Int32), g4))))) else (cl (fX7_fails (1 : Int32) g2) fun r5 g6 => (rz r5 g6)))
def fX7_isSign (a0 : Int32) (g : Mem) : Option (Int32 × Mem) :=
  cl (fX7_nextToken g) fun r1 g2 => (if (g2 61 8) = a0 then (some ((1 : Int32), g2)) else (cl (fX7_fails (1 : Int32) g2) fun r3 g4 => (if r3 = 0 then (some ((0 : Int32), g4)) else (some ((1 : Int32), g4)))))
def fX7_sortOf (a0 : Int32) (g : Mem) : Option (Int32 × Mem) :=
  if a0 = (112 : Int32) then (some ((1 : Int32), g)) else (if a0 = (100 : Int32) then (some ((2 : Int32), g)) else (if a0 = (103 : Int32) then (some ((3 : Int32), g)) else (if a0 = (108 : Int32) then (some ((4 : Int32), g)) else (if a0 = (117 : Int32) then (some ((5 : Int32), g)) else (some ((0 : Int32), g))))))
def fX7_isLaw (g : Mem) : Option (Int32 × Mem) :=
  cl (fX7_isSign (107 : Int32) g) fun r1 g2 => (if r1 = 0 then (some ((0 : Int32), g2)) else (cl (fX7_isNumber (255 : Int32) g2) fun r3 g4 => (if r3 = 0 then (some ((0 : Int32), g4)) else (as_ g4 67 50 (1 : Int32) (g4 61 9) fun g5 => (cl (fX7_isSign (44 : Int32) g5) fun r6 g7 => (if r6 = 0 then (some ((0 : Int32), g7)) else (cl (fX7_isNumber (99 : Int32) g7) fun r8 g9 => (if r8 = 0 then (some ((0 : Int32), g9)) else (as_ g9 67 50 (2 : Int32) (g9 61 9) fun g10 => (cl (fX7_isSign (59 : Int32) g10) fun r11 g12 => (rz r11 g12)))))))))))
def fX7_isThing (g : Mem) : Option (Int32 × Mem) :=
  al g 67 50 (3 : Int32) fun v1 => (if v1 = (8 : Int32) then (cl (fX7_fails (3 : Int32) g) fun r2 g3 => (rz r2 g3)) else (cl (fX7_isNumber (31 : Int32) g) fun r4 g5 => (if r4 = 0 then (some ((0 : Int32), g5)) else (al g5 67 50 (3 : Int32) fun v6 => (as_ g5 67 50 ((8 : Int32) + v6) (g5 61 9) fun g7 => (al g7 67 50 (3 : Int32) fun v8 => (as_ g7 67 50 (3 : Int32) (v8 + (1 : Int32)) fun g9 => (cl (fX7_isSign (59 : Int32) g9) fun r10 g11 => (rz r10 g11)))))))))
def fX7_isRiddle (g : Mem) : Option (Int32 × Mem) :=
  al g 67 50 (4 : Int32) fun v1 => (if v1 = (6 : Int32) then (cl (fX7_fails (3 : Int32) g) fun r2 g3 => (rz r2 g3)) else (cl (fX7_sortOf (g 61 8) g) fun r4 g5 => (as_ g5 67 50 ((16 : Int32) + v1) r4 fun g6 => (cl (fX7_isNumber (31 : Int32) g6) fun r7 g8 => (if r7 = 0 then (some ((0 : Int32), g8)) else (as_ g8 67 50 ((22 : Int32) + v1) (g8 61 9) fun g9 => (cl (fX7_isSign (44 : Int32) g9) fun r10 g11 => (if r10 = 0 then (some ((0 : Int32), g11)) else (cl (fX7_isNumber (31 : Int32) g11) fun r12 g13 => (if r12 = 0 then (some ((0 : Int32), g13)) else (al g13 67 50 ((22 : Int32) + v1) fun v14 => (if ((g13 61 9) &&& v14) = 0 then (as_ g13 67 50 ((28 : Int32) + v1) (g13 61 9) fun g15 => (al g15 67 50 (4 : Int32) fun v16 => (as_ g15 67 50 (4 : Int32) (v16 + (1 : Int32)) fun g17 => (cl (fX7_isSign (59 : Int32) g17) fun r18 g19 => (rz r18 g19))))) else (cl (fX7_fails (2 : Int32) g13) fun r20 g21 => (rz r20 g21))))))))))))))
def fX7_isSuitor (g : Mem) : Option (Int32 × Mem) :=
  al g 67 50 (5 : Int32) fun v1 => (if v1 = (4 : Int32) then (cl (fX7_fails (3 : Int32) g) fun r2 g3 => (rz r2 g3)) else (al g 67 50 (3 : Int32) fun v4 => (cl (fX7_isNumber (((1 : Int32) <<< (v4 &&& 31)) - (1 : Int32)) g) fun r5 g6 => (if r5 = 0 then (some ((0 : Int32), g6)) else (al g6 67 50 (5 : Int32) fun v7 => (as_ g6 67 50 ((34 : Int32) + v7) (g6 61 9) fun g8 => (al g8 67 50 (5 : Int32) fun v9 => (as_ g8 67 50 (5 : Int32) (v9 + (1 : Int32)) fun g10 => (cl (fX7_isSign (59 : Int32) g10) fun r11 g12 => (rz r11 g12))))))))))
def fX7_isRead_L7 (K : Int32 → Mem → Option (Int32 × Mem)) : Nat → Int32 → Mem → Option (Int32 × Mem)
  | 0, _, _ => none
  | n + 1, l1, g => if (50 : Int32) ≤ l1 then (K l1 g) else (as_ g 67 50 l1 (0 : Int32) fun g2 => (fX7_isRead_L7 K n (l1 + (1 : Int32)) g2))
def fX7_isRead_L41 (K : Int32 → Mem → Option (Int32 × Mem)) : Nat → Int32 → Mem → Option (Int32 × Mem)
  | 0, _, _ => none
  | n + 1, l1, g => if (g 61 8) = (-2 : Int32) then (K l1 g) else (if l1 = 0 then (K l1 g) else (al g 67 50 (5 : Int32) fun v9 => (if v9 = 0 then (if (g 61 8) = (116 : Int32) then (al g 67 50 (4 : Int32) fun v10 => (if v10 = 0 then (cl (fX7_isThing g) fun r11 g12 => (if r11 = 0 then (fX7_isRead_L41 K n r11 g12) else (cl (fX7_nextToken g12) fun r13 g14 => (fX7_isRead_L41 K n r11 g14)))) else (cl (fX7_sortOf (g 61 8) g) fun r15 g16 => (if r15 ≤ 0 then (if (g16 61 8) = (119 : Int32) then (cl (fX7_isSuitor g16) fun r17 g18 => (if r17 = 0 then (fX7_isRead_L41 K n r17 g18) else (cl (fX7_nextToken g18) fun r19 g20 => (fX7_isRead_L41 K n r17 g20)))) else (cl (fX7_fails (1 : Int32) g16) fun r21 g22 => (if r21 = 0 then (fX7_isRead_L41 K n r21 g22) else (cl (fX7_nextToken g22) fun r23 g24 => (fX7_isRead_L41 K n r21 g24))))) else (cl (fX7_isRiddle g16) fun r25 g26 => (if r25 = 0 then (fX7_isRead_L41 K n r25 g26) else (cl (fX7_nextToken g26) fun r27 g28 => (fX7_isRead_L41 K n r25 g28)))))))) else (cl (fX7_sortOf (g 61 8) g) fun r29 g30 => (if r29 ≤ 0 then (if (g30 61 8) = (119 : Int32) then (cl (fX7_isSuitor g30) fun r31 g32 => (if r31 = 0 then (fX7_isRead_L41 K n r31 g32) else (cl (fX7_nextToken g32) fun r33 g34 => (fX7_isRead_L41 K n r31 g34)))) else (cl (fX7_fails (1 : Int32) g30) fun r35 g36 => (if r35 = 0 then (fX7_isRead_L41 K n r35 g36) else (cl (fX7_nextToken g36) fun r37 g38 => (fX7_isRead_L41 K n r35 g38))))) else (cl (fX7_isRiddle g30) fun r39 g40 => (if r39 = 0 then (fX7_isRead_L41 K n r39 g40) else (cl (fX7_nextToken g40) fun r41 g42 => (fX7_isRead_L41 K n r39 g42))))))) else (if (g 61 8) = (116 : Int32) then (cl (fX7_sortOf (g 61 8) g) fun r43 g44 => (if r43 ≤ 0 then (if (g44 61 8) = (119 : Int32) then (cl (fX7_isSuitor g44) fun r45 g46 => (if r45 = 0 then (fX7_isRead_L41 K n r45 g46) else (cl (fX7_nextToken g46) fun r47 g48 => (fX7_isRead_L41 K n r45 g48)))) else (cl (fX7_fails (1 : Int32) g44) fun r49 g50 => (if r49 = 0 then (fX7_isRead_L41 K n r49 g50) else (cl (fX7_nextToken g50) fun r51 g52 => (fX7_isRead_L41 K n r49 g52))))) else (if (g44 61 8) = (119 : Int32) then (cl (fX7_isSuitor g44) fun r53 g54 => (if r53 = 0 then (fX7_isRead_L41 K n r53 g54) else (cl (fX7_nextToken g54) fun r55 g56 => (fX7_isRead_L41 K n r53 g56)))) else (cl (fX7_fails (1 : Int32) g44) fun r57 g58 => (if r57 = 0 then (fX7_isRead_L41 K n r57 g58) else (cl (fX7_nextToken g58) fun r59 g60 => (fX7_isRead_L41 K n r57 g60))))))) else (cl (fX7_sortOf (g 61 8) g) fun r61 g62 => (if r61 ≤ 0 then (if (g62 61 8) = (119 : Int32) then (cl (fX7_isSuitor g62) fun r63 g64 => (if r63 = 0 then (fX7_isRead_L41 K n r63 g64) else (cl (fX7_nextToken g64) fun r65 g66 => (fX7_isRead_L41 K n r63 g66)))) else (cl (fX7_fails (1 : Int32) g62) fun r67 g68 => (if r67 = 0 then (fX7_isRead_L41 K n r67 g68) else (cl (fX7_nextToken g68) fun r69 g70 => (fX7_isRead_L41 K n r67 g70))))) else (if (g62 61 8) = (119 : Int32) then (cl (fX7_isSuitor g62) fun r71 g72 => (if r71 = 0 then (fX7_isRead_L41 K n r71 g72) else (cl (fX7_nextToken g72) fun r73 g74 => (fX7_isRead_L41 K n r71 g74)))) else (cl (fX7_fails (1 : Int32) g62) fun r75 g76 => (if r75 = 0 then (fX7_isRead_L41 K n r75 g76) else (cl (fX7_nextToken g76) fun r77 g78 => (fX7_isRead_L41 K n r75 g78)))))))))))
def fX7_isRead (g : Mem) : Option (Int32 × Mem) :=
  pf g 61 6 (0 : Int32) fun g1 => (fX7_isRead_L7 (fun l3 g4 => cl (fX7_isLaw g4) fun r5 g6 => (if r5 = 0 then (some ((0 : Int32), g6)) else (cl (fX7_nextToken g6) fun r7 g8 => (fX7_isRead_L41 (fun l79 g80 => rz l79 g80) FU (1 : Int32) g8)))) FU (0 : Int32) g1)
def fX7_lay_L3 (q0 nq0 : Nat) (q2 nq2 : Nat) (l1 : Int32) (l3 : Int32) (K : Int32 → Mem → Option (Int32 × Mem)) : Nat → Int32 → Mem → Option (Int32 × Mem)
  | 0, _, _ => none
  | n + 1, l4, g => if (50 : Int32) ≤ l4 then (K l4 g) else (al g q0 nq0 (l1 + l4) fun v1 => (as_ g q2 nq2 (l3 + l4) v1 fun g2 => (fX7_lay_L3 q0 nq0 q2 nq2 l1 l3 K n (l4 + (1 : Int32)) g2)))
def fX7_lay (q0 nq0 : Nat) (a1 : Int32) (q2 nq2 : Nat) (a3 : Int32) (g : Mem) : Option (Int32 × Mem) :=
  fX7_lay_L3 q0 nq0 q2 nq2 a1 a3 (fun l3 g4 => some (0, g4)) FU (0 : Int32) g
def fX7_everything (g : Mem) : Option (Int32 × Mem) :=
  al g 66 50 (3 : Int32) fun v1 => (some ((((1 : Int32) <<< (v1 &&& 31)) - (1 : Int32)), g))
def fX7_court (g : Mem) : Option (Int32 × Mem) :=
  cl (fX7_isRead g) fun r1 g2 => (pf g2 61 4 (0 : Int32) fun g3 => (if r1 = 0 then (pf g3 61 10 (g3 61 11) fun g4 => (some (((-1000100 : Int32) - (g4 61 7)), g4))) else (cl (fX7_lay 67 50 (0 : Int32) 66 50 (0 : Int32) g3) fun r5 g6 => (as_ g6 66 50 (0 : Int32) (1 : Int32) fun g7 => (al g7 66 50 (1 : Int32) fun v8 => (cl (fX7_everything g7) fun r9 g10 => (as_ g10 66 50 (1 : Int32) (v8 &&& r9) fun g11 => (pf g11 61 17 (0 : Int32) fun g12 => (al g12 66 50 (5 : Int32) fun v13 => (some (v13, g12)))))))))))
def fX7_fault (g : Mem) : Option (Int32 × Mem) :=
  some ((g 61 10), g)
def fX7_isCourt (g : Mem) : Option (Int32 × Mem) :=
  al g 66 50 (0 : Int32) fun v1 => (if v1 = (1 : Int32) then (some ((1 : Int32), g)) else (some ((0 : Int32), g)))
def fX7_isThingAt (a0 : Int32) (g : Mem) : Option (Int32 × Mem) :=
  al g 66 50 (3 : Int32) fun v1 => (cl (fX7_in a0 (0 : Int32) (v1 - (1 : Int32)) g) fun r2 g3 => (rz r2 g3))
def fX7_isRiddleAt (a0 : Int32) (g : Mem) : Option (Int32 × Mem) :=
  al g 66 50 (4 : Int32) fun v1 => (cl (fX7_in a0 (0 : Int32) (v1 - (1 : Int32)) g) fun r2 g3 => (rz r2 g3))
def fX7_isSuitorAt (a0 : Int32) (g : Mem) : Option (Int32 × Mem) :=
  al g 66 50 (5 : Int32) fun v1 => (cl (fX7_in a0 (0 : Int32) (v1 - (1 : Int32)) g) fun r2 g3 => (rz r2 g3))
def fX7_fits (a0 : Int32) (a1 : Int32) (a2 : Int32) (a3 : Int32) (g : Mem) : Option (Int32 × Mem) :=
  if (a3 &&& a2) = 0 then (if (a3 &&& a1) = a1 then (if a0 = (1 : Int32) then (some ((1 : Int32), g)) else (if a0 = (2 : Int32) then (some ((1 : Int32), g)) else (if a0 = (3 : Int32) then (cl (fX7_bits (a1 &&& (a3 ^^^ (-1 : Int32))) g) fun r4 g5 => (if (2 : Int32) ≤ r4 then (some ((0 : Int32), g5)) else (some ((1 : Int32), g5)))) else (if a0 = (4 : Int32) then (some ((0 : Int32), g)) else (some ((0 : Int32), g)))))) else (if a0 = (1 : Int32) then (some ((0 : Int32), g)) else (if a0 = (2 : Int32) then (if (a3 &&& a2) = a2 then (if (a3 &&& a1) = 0 then (some ((1 : Int32), g)) else (some ((0 : Int32), g))) else (some ((0 : Int32), g))) else (if a0 = (3 : Int32) then (cl (fX7_bits (a1 &&& (a3 ^^^ (-1 : Int32))) g) fun r10 g11 => (if (2 : Int32) ≤ r10 then (some ((0 : Int32), g11)) else (some ((1 : Int32), g11)))) else (if a0 = (4 : Int32) then (some ((1 : Int32), g)) else (some ((1 : Int32), g))))))) else (if (a3 &&& a1) = a1 then (if a0 = (1 : Int32) then (some ((0 : Int32), g)) else (if a0 = (2 : Int32) then (if (a3 &&& a2) = a2 then (if (a3 &&& a1) = 0 then (some ((1 : Int32), g)) else (some ((0 : Int32), g))) else (some ((0 : Int32), g))) else (if a0 = (3 : Int32) then (cl (fX7_bits (a1 &&& (a3 ^^^ (-1 : Int32))) g) fun r16 g17 => (if (2 : Int32) ≤ r16 then (some ((0 : Int32), g17)) else (some ((0 : Int32), g17)))) else (if a0 = (4 : Int32) then (some ((1 : Int32), g)) else (some ((0 : Int32), g)))))) else (if a0 = (1 : Int32) then (some ((0 : Int32), g)) else (if a0 = (2 : Int32) then (if (a3 &&& a2) = a2 then (if (a3 &&& a1) = 0 then (some ((1 : Int32), g)) else (some ((0 : Int32), g))) else (some ((0 : Int32), g))) else (if a0 = (3 : Int32) then (cl (fX7_bits (a1 &&& (a3 ^^^ (-1 : Int32))) g) fun r22 g23 => (if (2 : Int32) ≤ r22 then (some ((0 : Int32), g23)) else (some ((0 : Int32), g23)))) else (if a0 = (4 : Int32) then (some ((1 : Int32), g)) else (some ((0 : Int32), g)))))))
def fX7_fittersOf_L6 (l1 : Int32) (l2 : Int32) (l3 : Int32) (K : Int32 → Int32 → Mem → Option (Int32 × Mem)) : Nat → Int32 → Int32 → Mem → Option (Int32 × Mem)
  | 0, _, _, _ => none
  | n + 1, l4, l5, g => al g 66 50 (3 : Int32) fun v1 => (if v1 ≤ l5 then (K l4 l5 g) else (al g 66 50 ((8 : Int32) + l5) fun v2 => (cl (fX7_fits l1 l2 l3 v2 g) fun r3 g4 => (if r3 = 0 then (lt ((l4 ||| (0 : Int32))) fun x5 => (fX7_fittersOf_L6 l1 l2 l3 K n x5 (l5 + (1 : Int32)) g4)) else (lt ((l4 ||| ((1 : Int32) <<< (l5 &&& 31)))) fun x6 => (fX7_fittersOf_L6 l1 l2 l3 K n x6 (l5 + (1 : Int32)) g4))))))
def fX7_fittersOf (a0 : Int32) (a1 : Int32) (a2 : Int32) (g : Mem) : Option (Int32 × Mem) :=
  fX7_fittersOf_L6 a0 a1 a2 (fun l7 l8 g9 => some (l7, g9)) FU (0 : Int32) (0 : Int32) g
def fX7_fittersAt (a0 : Int32) (g : Mem) : Option (Int32 × Mem) :=
  al g 66 50 ((16 : Int32) + a0) fun v1 => (al g 66 50 ((22 : Int32) + a0) fun v2 => (al g 66 50 ((28 : Int32) + a0) fun v3 => (cl (fX7_fittersOf v1 v2 v3 g) fun r4 g5 => (some (r4, g5)))))
def fX7_leastOf_L9 (l0 : Int32) (K : Int32 → Mem → Option (Int32 × Mem)) : Nat → Int32 → Mem → Option (Int32 × Mem)
  | 0, _, _ => none
  | n + 1, l1, g => cl (fX7_has l0 l1 g) fun r1 g2 => (if r1 = 0 then (fX7_leastOf_L9 l0 K n (l1 + (1 : Int32)) g2) else (K l1 g2))
def fX7_leastOf (a0 : Int32) (g : Mem) : Option (Int32 × Mem) :=
  if a0 = 0 then (some ((-1000000 : Int32), g)) else (fX7_leastOf_L9 a0 (fun l3 g4 => some (l3, g4)) FU (0 : Int32) g)
def fX7_answerAt (a0 : Int32) (g : Mem) : Option (Int32 × Mem) :=
  cl (fX7_fittersAt a0 g) fun r1 g2 => (cl (fX7_leastOf r1 g2) fun r3 g4 => (some (r3, g4)))
def fX7_saysAt (a0 : Int32) (a1 : Int32) (g : Mem) : Option (Int32 × Mem) :=
  cl (fX7_fittersAt a1 g) fun r1 g2 => (al g2 66 50 ((34 : Int32) + a0) fun v3 => (cl (fX7_leastOf (r1 &&& v3) g2) fun r4 g5 => (some (r4, g5))))
def fX7_sheSaysAt (a0 : Int32) (g : Mem) : Option (Int32 × Mem) :=
  cl (fX7_fittersAt a0 g) fun r1 g2 => (al g2 66 50 (1 : Int32) fun v3 => (cl (fX7_leastOf (r1 &&& v3) g2) fun r4 g5 => (some (r4, g5))))
def fX7_isOpen (a0 : Int32) (g : Mem) : Option (Int32 × Mem) :=
  al g 66 50 (6 : Int32) fun v1 => (cl (fX7_has v1 a0 g) fun r2 g3 => (if r2 = 0 then (some ((1 : Int32), g3)) else (some ((0 : Int32), g3))))
def fX7_isAnyWed_L4 (K : Int32 → Int32 → Mem → Option (Int32 × Mem)) : Nat → Int32 → Int32 → Mem → Option (Int32 × Mem)
  | 0, _, _, _ => none
  | n + 1, l1, l2, g => al g 66 50 (5 : Int32) fun v1 => (if v1 ≤ l2 then (K l1 l2 g) else (if l1 = 0 then (al g 66 50 ((38 : Int32) + l2) fun v2 => (if v2 = (2 : Int32) then (fX7_isAnyWed_L4 K n (1 : Int32) (l2 + (1 : Int32)) g) else (fX7_isAnyWed_L4 K n (0 : Int32) (l2 + (1 : Int32)) g))) else (fX7_isAnyWed_L4 K n (1 : Int32) (l2 + (1 : Int32)) g)))
def fX7_isAnyWed (g : Mem) : Option (Int32 × Mem) :=
  fX7_isAnyWed_L4 (fun l3 l4 g5 => rz l3 g5) FU (0 : Int32) (0 : Int32) g
def fX7_act_L11 (K : Int32 → Mem → Option (Int32 × Mem)) : Nat → Int32 → Mem → Option (Int32 × Mem)
  | 0, _, _ => none
  | n + 1, l1, g => if (1150 : Int32) ≤ l1 then (K l1 g) else (al g 70 1200 (l1 + (50 : Int32)) fun v1 => (as_ g 70 1200 l1 v1 fun g2 => (fX7_act_L11 K n (l1 + (1 : Int32)) g2)))
def fX7_act (g : Mem) : Option (Int32 × Mem) :=
  if (g 61 17) = (24 : Int32) then (fX7_act_L11 (fun l3 g4 => pf g4 61 17 ((g4 61 17) - (1 : Int32)) fun g5 => (cl (fX7_lay 66 50 (0 : Int32) 70 1200 ((50 : Int32) * (g5 61 17)) g5) fun r6 g7 => (pf g7 61 17 ((g7 61 17) + (1 : Int32)) fun g8 => (some (0, g8))))) FU (0 : Int32) g) else (cl (fX7_lay 66 50 (0 : Int32) 70 1200 ((50 : Int32) * (g 61 17)) g) fun r9 g10 => (pf g10 61 17 ((g10 61 17) + (1 : Int32)) fun g11 => (some (0, g11))))
def fX7_asked (a0 : Int32) (a1 : Int32) (g : Mem) : Option (Int32 × Mem) :=
  cl (fX7_isSuitorAt a0 g) fun r1 g2 => (if r1 = 0 then (some ((-1000001 : Int32), g2)) else (cl (fX7_isRiddleAt a1 g2) fun r3 g4 => (if r3 = 0 then (some ((-1000001 : Int32), g4)) else (al g4 66 50 ((38 : Int32) + a0) fun v5 => (if v5 = 0 then (cl (fX7_isOpen a1 g4) fun r6 g7 => (if r6 = 0 then (some ((-1000002 : Int32), g7)) else (cl (fX7_isAnyWed g7) fun r8 g9 => (if r8 = 0 then (cl (fX7_act g9) fun r10 g11 => (al g11 66 50 (6 : Int32) fun v12 => (as_ g11 66 50 (6 : Int32) (v12 ||| ((1 : Int32) <<< (a1 &&& 31))) fun g13 => (cl (fX7_saysAt a0 a1 g13) fun r14 g15 => (cl (fX7_answerAt a1 g15) fun r16 g17 => (if r14 = r16 then (al g17 66 50 ((42 : Int32) + a0) fun v18 => (as_ g17 66 50 ((42 : Int32) + a0) (v18 + (1 : Int32)) fun g19 => (al g19 66 50 ((42 : Int32) + a0) fun v20 => (if v20 = (3 : Int32) then (as_ g19 66 50 ((38 : Int32) + a0) (2 : Int32) fun g21 => (some (r14, g21))) else (as_ g19 66 50 ((38 : Int32) + a0) (0 : Int32) fun g22 => (some (r14, g22))))))) else (as_ g17 66 50 ((38 : Int32) + a0) (1 : Int32) fun g23 => (some (r14, g23))))))))) else (some ((-1000002 : Int32), g9)))))) else (some ((-1000002 : Int32), g4)))))))
def fX7_inTurn (a0 : Int32) (a1 : Int32) (g : Mem) : Option (Int32 × Mem) :=
  cl (fX7_isSuitorAt a0 g) fun r1 g2 => (if r1 = 0 then (some ((-1000001 : Int32), g2)) else (cl (fX7_isRiddleAt a1 g2) fun r3 g4 => (if r3 = 0 then (some ((-1000001 : Int32), g4)) else (al g4 66 50 ((38 : Int32) + a0) fun v5 => (if v5 = 0 then (cl (fX7_isOpen a1 g4) fun r6 g7 => (if r6 = 0 then (some ((-1000002 : Int32), g7)) else (al g7 66 50 ((46 : Int32) + a0) fun v8 => (if v8 = (1 : Int32) then (some ((-1000002 : Int32), g7)) else (cl (fX7_isAnyWed g7) fun r9 g10 => (if r9 = 0 then (cl (fX7_act g10) fun r11 g12 => (al g12 66 50 (6 : Int32) fun v13 => (as_ g12 66 50 (6 : Int32) (v13 ||| ((1 : Int32) <<< (a1 &&& 31))) fun g14 => (as_ g14 66 50 ((46 : Int32) + a0) (1 : Int32) fun g15 => (cl (fX7_sheSaysAt a1 g15) fun r16 g17 => (cl (fX7_answerAt a1 g17) fun r18 g19 => (if r16 = r18 then (as_ g19 66 50 ((38 : Int32) + a0) (0 : Int32) fun g20 => (some (r16, g20))) else (as_ g19 66 50 ((38 : Int32) + a0) (3 : Int32) fun g21 => (some (r16, g21)))))))))) else (some ((-1000002 : Int32), g10)))))))) else (some ((-1000002 : Int32), g4)))))))
def fX7_costOf_L4 (l1 : Int32) (K : Int32 → Int32 → Mem → Option (Int32 × Mem)) : Nat → Int32 → Int32 → Mem → Option (Int32 × Mem)
  | 0, _, _, _ => none
  | n + 1, l2, l3, g => al g 66 50 (4 : Int32) fun v1 => (if v1 ≤ l3 then (K l2 l3 g) else (cl (fX7_isOpen l3 g) fun r2 g3 => (if r2 = 0 then (lt ((l2 + (0 : Int32))) fun x4 => (fX7_costOf_L4 l1 K n x4 (l3 + (1 : Int32)) g3)) else (cl (fX7_answerAt l3 g3) fun r5 g6 => (if r5 = l1 then (al g6 66 50 (2 : Int32) fun v7 => (lt ((l2 + v7)) fun x8 => (fX7_costOf_L4 l1 K n x8 (l3 + (1 : Int32)) g6))) else (lt ((l2 + (0 : Int32))) fun x9 => (fX7_costOf_L4 l1 K n x9 (l3 + (1 : Int32)) g6)))))))
def fX7_costOf (a0 : Int32) (g : Mem) : Option (Int32 × Mem) :=
  fX7_costOf_L4 a0 (fun l10 l11 g12 => some (l10, g12)) FU (0 : Int32) (0 : Int32) g
def fX7_buy (a0 : Int32) (a1 : Int32) (g : Mem) : Option (Int32 × Mem) :=
  cl (fX7_isSuitorAt a0 g) fun r1 g2 => (if r1 = 0 then (some ((-1000001 : Int32), g2)) else (cl (fX7_isThingAt a1 g2) fun r3 g4 => (if r3 = 0 then (some ((-1000001 : Int32), g4)) else (al g4 66 50 ((38 : Int32) + a0) fun v5 => (if v5 = 0 then (al g4 66 50 ((34 : Int32) + a0) fun v6 => (cl (fX7_has v6 a1 g4) fun r7 g8 => (if r7 = 0 then (cl (fX7_act g8) fun r9 g10 => (cl (fX7_costOf a1 g10) fun r11 g12 => (al g12 66 50 ((34 : Int32) + a0) fun v13 => (as_ g12 66 50 ((34 : Int32) + a0) (v13 ||| ((1 : Int32) <<< (a1 &&& 31))) fun g14 => (al g14 66 50 (7 : Int32) fun v15 => (as_ g14 66 50 (7 : Int32) (v15 + r11) fun g16 => (some (r11, g16)))))))) else (some ((-1000002 : Int32), g8))))) else (some ((-1000002 : Int32), g4)))))))
def fX7_undo (g : Mem) : Option (Int32 × Mem) :=
  if (g 61 17) = 0 then (some ((-1000002 : Int32), g)) else (pf g 61 17 ((g 61 17) - (1 : Int32)) fun g1 => (cl (fX7_lay 70 1200 ((50 : Int32) * (g1 61 17)) 66 50 (0 : Int32) g1) fun r2 g3 => (some ((g3 61 17), g3))))
def fX7_thing (a0 : Int32) (g : Mem) : Option (Int32 × Mem) :=
  cl (fX7_isThingAt a0 g) fun r1 g2 => (if r1 = 0 then (some ((-1000001 : Int32), g2)) else (al g2 66 50 ((8 : Int32) + a0) fun v3 => (some (v3, g2))))
def fX7_riddle (a0 : Int32) (a1 : Int32) (g : Mem) : Option (Int32 × Mem) :=
  cl (fX7_isRiddleAt a0 g) fun r1 g2 => (if r1 = 0 then (some ((-1000001 : Int32), g2)) else (if a1 = (0 : Int32) then (al g2 66 50 ((22 : Int32) + a0) fun v4 => (some (v4, g2))) else (if a1 = (1 : Int32) then (al g2 66 50 ((28 : Int32) + a0) fun v6 => (some (v6, g2))) else (if a1 = (2 : Int32) then (cl (fX7_fittersAt a0 g2) fun r8 g9 => (some (r8, g9))) else (if a1 = (3 : Int32) then (cl (fX7_answerAt a0 g2) fun r11 g12 => (some (r11, g12))) else (if a1 = (4 : Int32) then (cl (fX7_isOpen a0 g2) fun r14 g15 => (if r14 = 0 then (some ((1 : Int32), g15)) else (some ((0 : Int32), g15)))) else (if a1 = (5 : Int32) then (cl (fX7_fittersAt a0 g2) fun r17 g18 => (cl (fX7_bits r17 g18) fun r19 g20 => (if r19 = (1 : Int32) then (some ((1 : Int32), g20)) else (some ((0 : Int32), g20))))) else (if a1 = (6 : Int32) then (cl (fX7_sheSaysAt a0 g2) fun r22 g23 => (some (r22, g23))) else (some ((-1000001 : Int32), g2))))))))))
def fX7_suitor (a0 : Int32) (a1 : Int32) (g : Mem) : Option (Int32 × Mem) :=
  cl (fX7_isSuitorAt a0 g) fun r1 g2 => (if r1 = 0 then (some ((-1000001 : Int32), g2)) else (cl (fX7_in a1 (0 : Int32) (3 : Int32) g2) fun r3 g4 => (if r3 = 0 then (some ((-1000001 : Int32), g4)) else (al g4 66 50 (((34 : Int32) + ((4 : Int32) * a1)) + a0) fun v5 => (some (v5, g4))))))
def fX7_says (a0 : Int32) (a1 : Int32) (g : Mem) : Option (Int32 × Mem) :=
  cl (fX7_isSuitorAt a0 g) fun r1 g2 => (if r1 = 0 then (some ((-1000001 : Int32), g2)) else (cl (fX7_isRiddleAt a1 g2) fun r3 g4 => (if r3 = 0 then (some ((-1000001 : Int32), g4)) else (cl (fX7_saysAt a0 a1 g4) fun r5 g6 => (some (r5, g6))))))
def fX7_riddleFor_L41 (l1 : Int32) (l2 : Int32) (l3 : Int32) (K : Int32 → Int32 → Int32 → Mem → Option (Int32 × Mem)) : Nat → Int32 → Int32 → Int32 → Mem → Option (Int32 × Mem)
  | 0, _, _, _, _ => none
  | n + 1, l4, l5, l6, g => if l6 < 0 then (K l4 l5 l6 g) else (nz (32 : Int32) (lt ((l6 / (32 : Int32))) fun x7 => (nz (32 : Int32) (lt ((irm l6 (32 : Int32))) fun x8 => (cl (fX7_fittersOf l2 x7 x8 g) fun r9 g10 => (if (x7 &&& x8) = 0 then (cl (fX7_bits r9 g10) fun r11 g12 => (if r11 = (1 : Int32) then (al g12 66 50 ((34 : Int32) + l1) fun v13 => (if (r9 &&& v13) = 0 then (lt ((l4 + (1 : Int32))) fun x14 => (fX7_riddleFor_L41 l1 l2 l3 K n x14 l6 (l6 + (-1 : Int32)) g12)) else (lt ((l4 + (0 : Int32))) fun x15 => (fX7_riddleFor_L41 l1 l2 l3 K n x15 l5 (l6 + (-1 : Int32)) g12)))) else (lt ((l4 + (0 : Int32))) fun x16 => (fX7_riddleFor_L41 l1 l2 l3 K n x16 l5 (l6 + (-1 : Int32)) g12)))) else (lt ((l4 + (0 : Int32))) fun x17 => (fX7_riddleFor_L41 l1 l2 l3 K n x17 l5 (l6 + (-1 : Int32)) g10))))))))
def fX7_riddleFor (a0 : Int32) (a1 : Int32) (a2 : Int32) (g : Mem) : Option (Int32 × Mem) :=
  cl (fX7_isSuitorAt a0 g) fun r1 g2 => (if r1 = 0 then (some ((-1000001 : Int32), g2)) else (cl (fX7_in a1 (1 : Int32) (5 : Int32) g2) fun r3 g4 => (if r3 = 0 then (some ((-1000001 : Int32), g4)) else (cl (fX7_in a2 (0 : Int32) (1 : Int32) g4) fun r5 g6 => (if r5 = 0 then (some ((-1000001 : Int32), g6)) else (fX7_riddleFor_L41 a0 a1 a2 (fun l18 l19 l20 g21 => if a2 = 0 then (some (l19, g21)) else (some (l18, g21))) FU (0 : Int32) (-1000000 : Int32) (1023 : Int32) g6))))))
def fX7_hard_L97 (l1 : Int32) (l2 : Int32) (l3 : Int32) (l4 : Int32) (l5 : Int32) (l6 : Int32) (l7 : Int32) (l8 : Int32) (K : Int32 → Int32 → Mem → Option (Int32 × Mem)) : Nat → Int32 → Int32 → Mem → Option (Int32 × Mem)
  | 0, _, _, _ => none
  | n + 1, l9, l10, g => al g 66 50 (5 : Int32) fun v13 => (if v13 ≤ l10 then (K l9 l10 g) else (al g 66 50 ((38 : Int32) + l10) fun v14 => (if v14 = 0 then (al g 66 50 ((34 : Int32) + l10) fun v15 => (if (l8 &&& v15) = 0 then (lt ((l9 + (1 : Int32))) fun x16 => (fX7_hard_L97 l1 l2 l3 l4 l5 l6 l7 l8 K n x16 (l10 + (1 : Int32)) g)) else (lt ((l9 + (0 : Int32))) fun x17 => (fX7_hard_L97 l1 l2 l3 l4 l5 l6 l7 l8 K n x17 (l10 + (1 : Int32)) g)))) else (lt ((l9 + (0 : Int32))) fun x18 => (fX7_hard_L97 l1 l2 l3 l4 l5 l6 l7 l8 K n x18 (l10 + (1 : Int32)) g)))))
def fX7_hard_L41 (l1 : Int32) (l2 : Int32) (K : Int32 → Int32 → Int32 → Mem → Option (Int32 × Mem)) : Nat → Int32 → Int32 → Int32 → Mem → Option (Int32 × Mem)
  | 0, _, _, _, _ => none
  | n + 1, l3, l4, l5, g => if (1024 : Int32) ≤ l5 then (K l3 l4 l5 g) else (nz (32 : Int32) (lt ((l5 / (32 : Int32))) fun x7 => (nz (32 : Int32) (lt ((irm l5 (32 : Int32))) fun x8 => (cl (fX7_fittersOf l1 x7 x8 g) fun r9 g10 => (if (x7 &&& x8) = 0 then (cl (fX7_bits r9 g10) fun r11 g12 => (if r11 = (1 : Int32) then (fX7_hard_L97 l1 l2 l3 l4 l5 x7 x8 r9 (fun l19 l20 g21 => if l19 ≤ l4 then (if l19 ≤ l4 then (fX7_hard_L41 l1 l2 K n l3 l4 (l5 + (1 : Int32)) g21) else (fX7_hard_L41 l1 l2 K n l3 l19 (l5 + (1 : Int32)) g21)) else (if l19 ≤ l4 then (fX7_hard_L41 l1 l2 K n l5 l4 (l5 + (1 : Int32)) g21) else (fX7_hard_L41 l1 l2 K n l5 l19 (l5 + (1 : Int32)) g21))) FU (0 : Int32) (0 : Int32) g12) else (fX7_hard_L41 l1 l2 K n l3 l4 (l5 + (1 : Int32)) g12))) else (fX7_hard_L41 l1 l2 K n l3 l4 (l5 + (1 : Int32)) g10)))))))
def fX7_hard (a0 : Int32) (a1 : Int32) (g : Mem) : Option (Int32 × Mem) :=
  cl (fX7_isCourt g) fun r1 g2 => (if r1 = 0 then (some ((-1000002 : Int32), g2)) else (cl (fX7_in a0 (1 : Int32) (5 : Int32) g2) fun r3 g4 => (if r3 = 0 then (some ((-1000001 : Int32), g4)) else (cl (fX7_in a1 (0 : Int32) (1 : Int32) g4) fun r5 g6 => (if r5 = 0 then (some ((-1000001 : Int32), g6)) else (fX7_hard_L41 a0 a1 (fun l22 l23 l24 g25 => if a1 = 0 then (some (l22, g25)) else (some (l23, g25))) FU (-1000000 : Int32) (-1000000 : Int32) (0 : Int32) g6))))))
def fX7_over_L4 (l0 : Int32) (l1 : Int32) (K : Int32 → Int32 → Mem → Option (Int32 × Mem)) : Nat → Int32 → Int32 → Mem → Option (Int32 × Mem)
  | 0, _, _, _ => none
  | n + 1, l2, l3, g => if l1 ≤ l3 then (K l2 l3 g) else (nz (l3 + (1 : Int32)) (lt (((l2 * (l0 - l3)) / (l3 + (1 : Int32)))) fun x1 => (fX7_over_L4 l0 l1 K n x1 (l3 + (1 : Int32)) g)))
def fX7_over (a0 : Int32) (a1 : Int32) (g : Mem) : Option (Int32 × Mem) :=
  fX7_over_L4 a0 a1 (fun l2 l3 g4 => if a1 ≤ a0 then (some (l2, g4)) else (some ((0 : Int32), g4))) FU (1 : Int32) (0 : Int32) g
def fX7_chance_L43 (l1 : Int32) (l2 : Int32) (K : Int32 → Int32 → Int32 → Mem → Option (Int32 × Mem)) : Nat → Int32 → Int32 → Int32 → Mem → Option (Int32 × Mem)
  | 0, _, _, _, _ => none
  | n + 1, l3, l4, l5, g => al g 66 50 (4 : Int32) fun v6 => (if v6 ≤ l5 then (K l3 l4 l5 g) else (cl (fX7_isOpen l5 g) fun r7 g8 => (if r7 = 0 then (lt ((l3 + (0 : Int32))) fun x9 => (cl (fX7_isOpen l5 g8) fun r10 g11 => (if r10 = 0 then (lt ((l4 + (0 : Int32))) fun x12 => (fX7_chance_L43 l1 l2 K n x9 x12 (l5 + (1 : Int32)) g11)) else (cl (fX7_saysAt l1 l5 g11) fun r13 g14 => (cl (fX7_answerAt l5 g14) fun r15 g16 => (if r13 = r15 then (lt ((l4 + (1 : Int32))) fun x17 => (fX7_chance_L43 l1 l2 K n x9 x17 (l5 + (1 : Int32)) g16)) else (lt ((l4 + (0 : Int32))) fun x18 => (fX7_chance_L43 l1 l2 K n x9 x18 (l5 + (1 : Int32)) g16)))))))) else (lt ((l3 + (1 : Int32))) fun x19 => (cl (fX7_isOpen l5 g8) fun r20 g21 => (if r20 = 0 then (lt ((l4 + (0 : Int32))) fun x22 => (fX7_chance_L43 l1 l2 K n x19 x22 (l5 + (1 : Int32)) g21)) else (cl (fX7_saysAt l1 l5 g21) fun r23 g24 => (cl (fX7_answerAt l5 g24) fun r25 g26 => (if r23 = r25 then (lt ((l4 + (1 : Int32))) fun x27 => (fX7_chance_L43 l1 l2 K n x19 x27 (l5 + (1 : Int32)) g26)) else (lt ((l4 + (0 : Int32))) fun x28 => (fX7_chance_L43 l1 l2 K n x19 x28 (l5 + (1 : Int32)) g26)))))))))))
def fX7_chance_L159 (l1 : Int32) (l2 : Int32) (l3 : Int32) (l4 : Int32) (l5 : Int32) (l6 : Int32) (l7 : Int32) (K : Int32 → Int32 → Mem → Option (Int32 × Mem)) : Nat → Int32 → Int32 → Mem → Option (Int32 × Mem)
  | 0, _, _, _ => none
  | n + 1, l8, l9, g => if l9 ≤ 0 then (K l8 l9 g) else (nz l9 (lt ((irm l8 l9)) fun x39 => (fX7_chance_L159 l1 l2 l3 l4 l5 l6 l7 K n l9 x39 g)))
def fX7_chance (a0 : Int32) (a1 : Int32) (g : Mem) : Option (Int32 × Mem) :=
  cl (fX7_isSuitorAt a0 g) fun r1 g2 => (if r1 = 0 then (some ((-1000001 : Int32), g2)) else (cl (fX7_in a1 (0 : Int32) (1 : Int32) g2) fun r3 g4 => (if r3 = 0 then (some ((-1000001 : Int32), g4)) else (al g4 66 50 ((38 : Int32) + a0) fun v5 => (if v5 = 0 then (fX7_chance_L43 a0 a1 (fun l29 l30 l31 g32 => al g32 66 50 ((42 : Int32) + a0) fun v33 => (lt (((3 : Int32) - v33)) fun x34 => (if x34 ≤ l29 then (cl (fX7_over l30 x34 g32) fun r35 g36 => (cl (fX7_over l29 x34 g36) fun r37 g38 => (fX7_chance_L159 a0 a1 l29 l30 x34 r35 r37 (fun l40 l41 g42 => if a1 = 0 then (nz l40 (some ((r35 / l40), g42))) else (nz l40 (some ((r37 / l40), g42)))) FU r35 r37 g38))) else (some ((-1000000 : Int32), g32))))) FU (0 : Int32) (0 : Int32) (0 : Int32) g4) else (some ((-1000002 : Int32), g4)))))))
def fX7_toBuy_L45 (l1 : Int32) (l2 : Int32) (l3 : Int32) (l4 : Int32) (l5 : Int32) (K : Int32 → Int32 → Mem → Option (Int32 × Mem)) : Nat → Int32 → Int32 → Mem → Option (Int32 × Mem)
  | 0, _, _, _ => none
  | n + 1, l6, l7, g => al g 66 50 (4 : Int32) fun v6 => (if v6 ≤ l7 then (K l6 l7 g) else (if l6 = 0 then (cl (fX7_isOpen l7 g) fun r7 g8 => (if r7 = 0 then (fX7_toBuy_L45 l1 l2 l3 l4 l5 K n (0 : Int32) (l7 + (1 : Int32)) g8) else (cl (fX7_answerAt l7 g8) fun r9 g10 => (if r9 = l5 then (fX7_toBuy_L45 l1 l2 l3 l4 l5 K n (1 : Int32) (l7 + (1 : Int32)) g10) else (fX7_toBuy_L45 l1 l2 l3 l4 l5 K n (0 : Int32) (l7 + (1 : Int32)) g10))))) else (fX7_toBuy_L45 l1 l2 l3 l4 l5 K n (1 : Int32) (l7 + (1 : Int32)) g)))
def fX7_toBuy_L28 (l1 : Int32) (l2 : Int32) (K : Int32 → Int32 → Int32 → Mem → Option (Int32 × Mem)) : Nat → Int32 → Int32 → Int32 → Mem → Option (Int32 × Mem)
  | 0, _, _, _, _ => none
  | n + 1, l3, l4, l5, g => al g 66 50 (3 : Int32) fun v5 => (if v5 ≤ l5 then (K l3 l4 l5 g) else (fX7_toBuy_L45 l1 l2 l3 l4 l5 (fun l11 l12 g13 => if l11 = 0 then (fX7_toBuy_L28 l1 l2 K n l3 l4 (l5 + (1 : Int32)) g13) else (al g13 66 50 ((34 : Int32) + l1) fun v14 => (cl (fX7_has v14 l5 g13) fun r15 g16 => (if r15 = 0 then (lt ((l3 ||| ((1 : Int32) <<< (l5 &&& 31)))) fun x17 => (cl (fX7_costOf l5 g16) fun r18 g19 => (lt ((l4 + r18)) fun x20 => (fX7_toBuy_L28 l1 l2 K n x17 x20 (l5 + (1 : Int32)) g19)))) else (fX7_toBuy_L28 l1 l2 K n l3 l4 (l5 + (1 : Int32)) g16))))) FU (0 : Int32) (0 : Int32) g))
def fX7_toBuy (a0 : Int32) (a1 : Int32) (g : Mem) : Option (Int32 × Mem) :=
  cl (fX7_isSuitorAt a0 g) fun r1 g2 => (if r1 = 0 then (some ((-1000001 : Int32), g2)) else (cl (fX7_in a1 (0 : Int32) (1 : Int32) g2) fun r3 g4 => (if r3 = 0 then (some ((-1000001 : Int32), g4)) else (fX7_toBuy_L28 a0 a1 (fun l21 l22 l23 g24 => if a1 = 0 then (some (l21, g24)) else (some (l22, g24))) FU (0 : Int32) (0 : Int32) (0 : Int32) g4))))
def fX7_beats_L14 (K : Int32 → Int32 → Mem → Option (Int32 × Mem)) : Nat → Int32 → Int32 → Mem → Option (Int32 × Mem)
  | 0, _, _, _ => none
  | n + 1, l1, l2, g => al g 66 50 (4 : Int32) fun v3 => (if v3 ≤ l2 then (K l1 l2 g) else (cl (fX7_isOpen l2 g) fun r4 g5 => (if r4 = 0 then (lt ((l1 ||| (0 : Int32))) fun x6 => (fX7_beats_L14 K n x6 (l2 + (1 : Int32)) g5)) else (cl (fX7_sheSaysAt l2 g5) fun r7 g8 => (cl (fX7_answerAt l2 g8) fun r9 g10 => (if r7 = r9 then (lt ((l1 ||| (0 : Int32))) fun x11 => (fX7_beats_L14 K n x11 (l2 + (1 : Int32)) g10)) else (lt ((l1 ||| ((1 : Int32) <<< (l2 &&& 31)))) fun x12 => (fX7_beats_L14 K n x12 (l2 + (1 : Int32)) g10))))))))
def fX7_beats (g : Mem) : Option (Int32 × Mem) :=
  cl (fX7_isCourt g) fun r1 g2 => (if r1 = 0 then (some ((-1000002 : Int32), g2)) else (fX7_beats_L14 (fun l13 l14 g15 => some (l13, g15)) FU (0 : Int32) (0 : Int32) g2))
def fX7_havers_L5 (l1 : Int32) (l2 : Int32) (K : Int32 → Int32 → Mem → Option (Int32 × Mem)) : Nat → Int32 → Int32 → Mem → Option (Int32 × Mem)
  | 0, _, _, _ => none
  | n + 1, l3, l4, g => al g 66 50 (3 : Int32) fun v1 => (if v1 ≤ l4 then (K l3 l4 g) else (cl (fX7_has l1 l4 g) fun r2 g3 => (if r2 = 0 then (lt ((l3 ||| (0 : Int32))) fun x4 => (fX7_havers_L5 l1 l2 K n x4 (l4 + (1 : Int32)) g3)) else (al g3 66 50 ((8 : Int32) + l4) fun v5 => (cl (fX7_has v5 l2 g3) fun r6 g7 => (if r6 = 0 then (lt ((l3 ||| (0 : Int32))) fun x8 => (fX7_havers_L5 l1 l2 K n x8 (l4 + (1 : Int32)) g7)) else (lt ((l3 ||| ((1 : Int32) <<< (l4 &&& 31)))) fun x9 => (fX7_havers_L5 l1 l2 K n x9 (l4 + (1 : Int32)) g7))))))))
def fX7_havers (a0 : Int32) (a1 : Int32) (g : Mem) : Option (Int32 × Mem) :=
  fX7_havers_L5 a0 a1 (fun l10 l11 g12 => some (l10, g12)) FU (0 : Int32) (0 : Int32) g
def fX7_deepBy (a0 : Int32) (a1 : Int32) (g : Mem) : Option (Int32 × Mem) :=
  cl (fX7_havers a0 a1 g) fun r1 g2 => (lt ((a0 &&& (r1 ^^^ (-1 : Int32)))) fun x3 => (if r1 = 0 then (some ((-1 : Int32), g2)) else (if x3 = 0 then (some ((-1 : Int32), g2)) else (al g2 72 256 r1 fun v4 => (if v4 < 0 then (some ((-1 : Int32), g2)) else (al g2 72 256 x3 fun v5 => (if 0 ≤ v5 then (al g2 72 256 r1 fun v6 => (al g2 72 256 x3 fun v7 => (if v6 ≤ v7 then (al g2 72 256 x3 fun v8 => (some (((1 : Int32) + v8), g2))) else (al g2 72 256 r1 fun v9 => (some (((1 : Int32) + v9), g2)))))) else (some ((-1 : Int32), g2)))))))))
def fX7_tree_L73 (l1 : Int32) (l2 : Int32) (l4 : Int32) (K : Int32 → Int32 → Mem → Option (Int32 × Mem)) : Nat → Int32 → Int32 → Mem → Option (Int32 × Mem)
  | 0, _, _, _ => none
  | n + 1, l3, l5, g => if (5 : Int32) ≤ l5 then (K l3 l5 g) else (cl (fX7_bits l4 g) fun r12 g13 => (if (2 : Int32) ≤ r12 then (cl (fX7_deepBy l4 l5 g13) fun r14 g15 => (if r14 < 0 then (fX7_tree_L73 l1 l2 l4 K n l3 (l5 + (1 : Int32)) g15) else (al g15 72 256 l4 fun v16 => (if v16 < 0 then (as_ g15 72 256 l4 r14 fun g17 => (fX7_tree_L73 l1 l2 l4 K n l5 (l5 + (1 : Int32)) g17)) else (al g15 72 256 l4 fun v18 => (if v18 ≤ r14 then (fX7_tree_L73 l1 l2 l4 K n l3 (l5 + (1 : Int32)) g15) else (as_ g15 72 256 l4 r14 fun g19 => (fX7_tree_L73 l1 l2 l4 K n l5 (l5 + (1 : Int32)) g19)))))))) else (if (-1 : Int32) < 0 then (fX7_tree_L73 l1 l2 l4 K n l3 (l5 + (1 : Int32)) g13) else (al g13 72 256 l4 fun v20 => (if v20 < 0 then (as_ g13 72 256 l4 (-1 : Int32) fun g21 => (fX7_tree_L73 l1 l2 l4 K n l5 (l5 + (1 : Int32)) g21)) else (al g13 72 256 l4 fun v22 => (if v22 ≤ (-1 : Int32) then (fX7_tree_L73 l1 l2 l4 K n l3 (l5 + (1 : Int32)) g13) else (as_ g13 72 256 l4 (-1 : Int32) fun g23 => (fX7_tree_L73 l1 l2 l4 K n l5 (l5 + (1 : Int32)) g23)))))))))
def fX7_tree_L40 (l1 : Int32) (l2 : Int32) (K : Int32 → Int32 → Mem → Option (Int32 × Mem)) : Nat → Int32 → Int32 → Mem → Option (Int32 × Mem)
  | 0, _, _, _ => none
  | n + 1, l3, l4, g => if l1 < l4 then (K l3 l4 g) else (cl (fX7_bits l4 g) fun r9 g10 => (if (2 : Int32) ≤ r9 then (as_ g10 72 256 l4 (-1 : Int32) fun g11 => (fX7_tree_L73 l1 l2 l4 (fun l24 l25 g26 => fX7_tree_L40 l1 l2 K n l24 (l4 + (1 : Int32)) g26) FU (-1000000 : Int32) (0 : Int32) g11)) else (as_ g10 72 256 l4 (0 : Int32) fun g27 => (fX7_tree_L73 l1 l2 l4 (fun l28 l29 g30 => fX7_tree_L40 l1 l2 K n l28 (l4 + (1 : Int32)) g30) FU (-1000000 : Int32) (0 : Int32) g27))))
def fX7_tree (a0 : Int32) (a1 : Int32) (g : Mem) : Option (Int32 × Mem) :=
  cl (fX7_isCourt g) fun r1 g2 => (if r1 = 0 then (some ((-1000002 : Int32), g2)) else (cl (fX7_everything g2) fun r3 g4 => (cl (fX7_in a0 (0 : Int32) r3 g4) fun r5 g6 => (if r5 = 0 then (some ((-1000001 : Int32), g6)) else (cl (fX7_in a1 (0 : Int32) (1 : Int32) g6) fun r7 g8 => (if r7 = 0 then (some ((-1000001 : Int32), g8)) else (fX7_tree_L40 a0 a1 (fun l31 l32 g33 => if a1 = (1 : Int32) then (some (l31, g33)) else (al g33 72 256 a0 fun v34 => (if 0 ≤ v34 then (al g33 72 256 a0 fun v35 => (some (v35, g33))) else (some ((-1000000 : Int32), g33))))) FU (-1000000 : Int32) (0 : Int32) g8)))))))
def fX7_said_L78 (l1 : Int32) (l2 : Int32) (l3 : Int32) (l4 : Int32) (l5 : Int32) (K : Int32 → Mem → Option (Int32 × Mem)) : Nat → Int32 → Mem → Option (Int32 × Mem)
  | 0, _, _ => none
  | n + 1, l6, g => if l4 ≤ l6 then (K l6 g) else (al g 64 320 ((((40 : Int32) * l2) + l3) + l6) fun v15 => (if v15 = (-1 : Int32) then (fX7_said_L78 l1 l2 l3 l4 l5 K n (l6 + (1 : Int32)) g) else (cl (fX7_isThingAt v15 g) fun r16 g17 => (if r16 = 0 then (some ((-1000001 : Int32), g17)) else (fX7_said_L78 l1 l2 l3 l4 l5 K n (l6 + (1 : Int32)) g17)))))
def fX7_said_L131 (l1 : Int32) (l2 : Int32) (l3 : Int32) (l4 : Int32) (l5 : Int32) (K : Int32 → Int32 → Mem → Option (Int32 × Mem)) : Nat → Int32 → Int32 → Mem → Option (Int32 × Mem)
  | 0, _, _, _ => none
  | n + 1, l6, l7, g => if l4 ≤ l7 then (K l6 l7 g) else (al g 66 50 (4 : Int32) fun v20 => (lt ((l6 * v20)) fun x21 => (fX7_said_L131 l1 l2 l3 l4 l5 K n x21 (l7 + (1 : Int32)) g)))
def fX7_said_L184 (l1 : Int32) (l2 : Int32) (l3 : Int32) (l4 : Int32) (l5 : Int32) (l6 : Int32) (l7 : Int32) (l8 : Int32) (l9 : Int32) (K : Int32 → Int32 → Int32 → Int32 → Mem → Option (Int32 × Mem)) : Nat → Int32 → Int32 → Int32 → Int32 → Mem → Option (Int32 × Mem)
  | 0, _, _, _, _, _ => none
  | n + 1, l10, l11, l12, l13, g => if l4 ≤ l13 then (K l10 l11 l12 l13 g) else (al g 66 50 (4 : Int32) fun v25 => (nz v25 (lt ((irm l10 v25)) fun x26 => (al g 66 50 (4 : Int32) fun v27 => (nz v27 (lt ((l10 / v27)) fun x28 => (al g 64 320 ((((40 : Int32) * l2) + l3) + l13) fun v29 => (if l12 = 0 then (lt ((l11 ||| ((1 : Int32) <<< (x26 &&& 31)))) fun x30 => (fX7_said_L184 l1 l2 l3 l4 l5 l6 l7 l8 l9 K n x28 x30 (0 : Int32) (l13 + (1 : Int32)) g)) else (cl (fX7_has l11 x26 g) fun r31 g32 => (if r31 = 0 then (cl (fX7_saysAt l1 x26 g32) fun r33 g34 => (if v29 = (-1 : Int32) then (if r33 = (-1000000 : Int32) then (lt ((l11 ||| ((1 : Int32) <<< (x26 &&& 31)))) fun x35 => (fX7_said_L184 l1 l2 l3 l4 l5 l6 l7 l8 l9 K n x28 x35 (1 : Int32) (l13 + (1 : Int32)) g34)) else (lt ((l11 ||| ((1 : Int32) <<< (x26 &&& 31)))) fun x36 => (fX7_said_L184 l1 l2 l3 l4 l5 l6 l7 l8 l9 K n x28 x36 (0 : Int32) (l13 + (1 : Int32)) g34))) else (if r33 = v29 then (lt ((l11 ||| ((1 : Int32) <<< (x26 &&& 31)))) fun x37 => (fX7_said_L184 l1 l2 l3 l4 l5 l6 l7 l8 l9 K n x28 x37 (1 : Int32) (l13 + (1 : Int32)) g34)) else (lt ((l11 ||| ((1 : Int32) <<< (x26 &&& 31)))) fun x38 => (fX7_said_L184 l1 l2 l3 l4 l5 l6 l7 l8 l9 K n x28 x38 (0 : Int32) (l13 + (1 : Int32)) g34))))) else (lt ((l11 ||| ((1 : Int32) <<< (x26 &&& 31)))) fun x39 => (fX7_said_L184 l1 l2 l3 l4 l5 l6 l7 l8 l9 K n x28 x39 (0 : Int32) (l13 + (1 : Int32)) g32))))))))))))
def fX7_said_L164 (l1 : Int32) (l2 : Int32) (l3 : Int32) (l4 : Int32) (l5 : Int32) (l6 : Int32) (K : Int32 → Int32 → Int32 → Mem → Option (Int32 × Mem)) : Nat → Int32 → Int32 → Int32 → Mem → Option (Int32 × Mem)
  | 0, _, _, _, _ => none
  | n + 1, l7, l8, l9, g => if l6 ≤ l9 then (K l7 l8 l9 g) else (fX7_said_L184 l1 l2 l3 l4 l5 l6 l7 l8 l9 (fun l40 l41 l42 l43 g44 => if l42 = 0 then (fX7_said_L164 l1 l2 l3 l4 l5 l6 K n l7 l8 (l9 + (1 : Int32)) g44) else (if l7 = 0 then (fX7_said_L164 l1 l2 l3 l4 l5 l6 K n (l7 + (1 : Int32)) l41 (l9 + (1 : Int32)) g44) else (lt ((l8 &&& l41)) fun x45 => (fX7_said_L164 l1 l2 l3 l4 l5 l6 K n (l7 + (1 : Int32)) x45 (l9 + (1 : Int32)) g44)))) FU l9 (0 : Int32) (1 : Int32) (0 : Int32) g)
def fX7_said (a0 : Int32) (a1 : Int32) (a2 : Int32) (a3 : Int32) (a4 : Int32) (g : Mem) : Option (Int32 × Mem) :=
  cl (fX7_isSuitorAt a0 g) fun r1 g2 => (if r1 = 0 then (some ((-1000001 : Int32), g2)) else (cl (fX7_isRow a1 g2) fun r3 g4 => (if r3 = 0 then (some ((-1000001 : Int32), g4)) else (cl (fX7_in a3 (1 : Int32) (6 : Int32) g4) fun r5 g6 => (if r5 = 0 then (some ((-1000001 : Int32), g6)) else (cl (fX7_in a4 (0 : Int32) (1 : Int32) g6) fun r7 g8 => (if r7 = 0 then (some ((-1000001 : Int32), g8)) else (al g8 62 8 a1 fun v9 => (if 0 ≤ v9 then (al g8 63 8 a1 fun v10 => (cl (fX7_isPart a2 a3 v10 g8) fun r11 g12 => (if r11 = 0 then (cl (fX7_finds (2 : Int32) g12) fun r13 g14 => (some (r13, g14))) else (fX7_said_L78 a0 a1 a2 a3 a4 (fun l18 g19 => fX7_said_L131 a0 a1 a2 a3 a4 (fun l22 l23 g24 => fX7_said_L164 a0 a1 a2 a3 a4 l22 (fun l46 l47 l48 g49 => if a4 = 0 then (cl (fX7_done l46 g49) fun r50 g51 => (some (r50, g51))) else (cl (fX7_done l47 g49) fun r52 g53 => (some (r52, g53)))) FU (0 : Int32) (0 : Int32) (0 : Int32) g24) FU (1 : Int32) (0 : Int32) g19) FU (0 : Int32) g12)))) else (cl (fX7_finds (1 : Int32) g8) fun r54 g55 => (some (r54, g55))))))))))))
def fX7_image (a0 : Int32) (g : Mem) : Option (Int32 × Mem) :=
  cl (fX7_in a0 (0 : Int32) (1 : Int32) g) fun r1 g2 => (if r1 = 0 then (some ((-1000001 : Int32), g2)) else (cl (fX7_isCourt g2) fun r3 g4 => (if r3 = 0 then (some ((-1000002 : Int32), g4)) else (cl (fX7_lay 66 50 (0 : Int32) 68 100 ((50 : Int32) * a0) g4) fun r5 g6 => (as_ g6 69 2 a0 (1 : Int32) fun g7 => (some ((1 : Int32), g7)))))))
def fX7_restore (a0 : Int32) (g : Mem) : Option (Int32 × Mem) :=
  cl (fX7_in a0 (0 : Int32) (1 : Int32) g) fun r1 g2 => (if r1 = 0 then (some ((-1000001 : Int32), g2)) else (al g2 69 2 a0 fun v3 => (if v3 = 0 then (some ((-1000002 : Int32), g2)) else (cl (fX7_lay 68 100 ((50 : Int32) * a0) 66 50 (0 : Int32) g2) fun r4 g5 => (pf g5 61 17 (0 : Int32) fun g6 => (some ((1 : Int32), g6)))))))
def fX7_kindAt (a0 : Int32) (g : Mem) : Option (Int32 × Mem) :=
  al g 66 50 ((16 : Int32) + a0) fun v1 => (some (v1, g))
def fX7_kind (a0 : Int32) (g : Mem) : Option (Int32 × Mem) :=
  cl (fX7_isRiddleAt a0 g) fun r1 g2 => (if r1 = 0 then (some ((-1000001 : Int32), g2)) else (cl (fX7_kindAt a0 g2) fun r3 g4 => (some (r3, g4))))
def fX7_parentOf (a0 : Int32) (g : Mem) : Option (Int32 × Mem) :=
  if a0 = (1 : Int32) then (some ((0 : Int32), g)) else (if a0 = (4 : Int32) then (some ((0 : Int32), g)) else (if a0 = (5 : Int32) then (some ((4 : Int32), g)) else (some ((1 : Int32), g))))
def fX7_as (a0 : Int32) (a1 : Int32) (g : Mem) : Option (Int32 × Mem) :=
  cl (fX7_isRiddleAt a0 g) fun r1 g2 => (if r1 = 0 then (some ((-1000001 : Int32), g2)) else (cl (fX7_in a1 (0 : Int32) (5 : Int32) g2) fun r3 g4 => (if r3 = 0 then (some ((-1000001 : Int32), g4)) else (cl (fX7_kindAt a0 g4) fun r5 g6 => (if a1 = 0 then (cl (fX7_done a0 g6) fun r7 g8 => (some (r7, g8))) else (if r5 = a1 then (cl (fX7_done a0 g6) fun r9 g10 => (some (r9, g10))) else (cl (fX7_parentOf r5 g6) fun r11 g12 => (if r11 = a1 then (cl (fX7_done a0 g12) fun r13 g14 => (some (r13, g14))) else (cl (fX7_finds (3 : Int32) g12) fun r15 g16 => (some (r15, g16)))))))))))
def fX7_begins (a0 : Int32) (g : Mem) : Option (Int32 × Mem) :=
  if (16 : Int32) ≤ (g 61 19) then (some (0, g)) else (as_ g 71 16 (g 61 19) a0 fun g1 => (pf g1 61 19 ((g1 61 19) + (1 : Int32)) fun g2 => (some (0, g2))))
def fX7_markPlain (a0 : Int32) (g : Mem) : Option (Int32 × Mem) :=
  cl (fX7_begins (21 : Int32) g) fun r1 g2 => (cl (fX7_begins (20 : Int32) g2) fun r3 g4 => (al g4 66 50 ((22 : Int32) + a0) fun v5 => (some ((a0 + v5), g4))))
def fX7_markByKind (a0 : Int32) (g : Mem) : Option (Int32 × Mem) :=
  cl (fX7_kindAt a0 g) fun r1 g2 => (if r1 = (2 : Int32) then (cl (fX7_begins (24 : Int32) g2) fun r3 g4 => (cl (fX7_markPlain a0 g4) fun r5 g6 => (some (((2 : Int32) * r5), g6)))) else (if r1 = (3 : Int32) then (cl (fX7_begins (22 : Int32) g2) fun r7 g8 => (cl (fX7_markPlain a0 g8) fun r9 g10 => (some ((r9 - (1000 : Int32)), g10)))) else (cl (fX7_markPlain a0 g2) fun r11 g12 => (some (r11, g12)))))
def fX7_sizeLying (a0 : Int32) (g : Mem) : Option (Int32 × Mem) :=
  cl (fX7_begins (13 : Int32) g) fun r1 g2 => (cl (fX7_begins (10 : Int32) g2) fun r3 g4 => (cl (fX7_fittersAt a0 g4) fun r5 g6 => (cl (fX7_bits r5 g6) fun r7 g8 => (some ((r7 - (100 : Int32)), g8)))))
def fX7_sizeOf (a0 : Int32) (g : Mem) : Option (Int32 × Mem) :=
  cl (fX7_kindAt a0 g) fun r1 g2 => (if r1 = (5 : Int32) then (cl (fX7_begins (14 : Int32) g2) fun r3 g4 => (cl (fX7_sizeLying a0 g4) fun r5 g6 => (some (((2 : Int32) * r5), g6)))) else (if r1 = (4 : Int32) then (cl (fX7_sizeLying a0 g2) fun r7 g8 => (some (r7, g8))) else (if r1 = (2 : Int32) then (cl (fX7_begins (12 : Int32) g2) fun r9 g10 => (cl (fX7_begins (11 : Int32) g10) fun r11 g12 => (cl (fX7_begins (10 : Int32) g12) fun r13 g14 => (cl (fX7_fittersAt a0 g14) fun r15 g16 => (cl (fX7_bits r15 g16) fun r17 g18 => (cl (fX7_markByKind a0 g18) fun r19 g20 => (lt ((r17 + r19)) fun x21 => (if r1 = (2 : Int32) then (some ((-x21), g20)) else (some (x21, g20)))))))))) else (cl (fX7_begins (11 : Int32) g2) fun r22 g23 => (cl (fX7_begins (10 : Int32) g23) fun r24 g25 => (cl (fX7_fittersAt a0 g25) fun r26 g27 => (cl (fX7_bits r26 g27) fun r28 g29 => (cl (fX7_markByKind a0 g29) fun r30 g31 => (lt ((r28 + r30)) fun x32 => (if r1 = (2 : Int32) then (some ((-x32), g31)) else (some (x32, g31))))))))))))
def fX7_markOf (a0 : Int32) (g : Mem) : Option (Int32 × Mem) :=
  cl (fX7_kindAt a0 g) fun r1 g2 => (if (4 : Int32) ≤ r1 then (cl (fX7_begins (23 : Int32) g2) fun r3 g4 => (cl (fX7_begins (20 : Int32) g4) fun r5 g6 => (cl (fX7_sizeOf a0 g6) fun r7 g8 => (some ((a0 - r7), g8))))) else (cl (fX7_markByKind a0 g2) fun r9 g10 => (some (r9, g10))))
def fX7_ask (a0 : Int32) (a1 : Int32) (g : Mem) : Option (Int32 × Mem) :=
  cl (fX7_isRiddleAt a0 g) fun r1 g2 => (if r1 = 0 then (some ((-1000001 : Int32), g2)) else (cl (fX7_in a1 (0 : Int32) (1 : Int32) g2) fun r3 g4 => (if r3 = 0 then (some ((-1000001 : Int32), g4)) else (pf g4 61 19 (0 : Int32) fun g5 => (if a1 = 0 then (cl (fX7_sizeOf a0 g5) fun r6 g7 => (some (r6, g7))) else (cl (fX7_markOf a0 g5) fun r8 g9 => (some (r8, g9))))))))
def fX7_trace (a0 : Int32) (g : Mem) : Option (Int32 × Mem) :=
  cl (fX7_in a0 (0 : Int32) ((g 61 19) - (1 : Int32)) g) fun r1 g2 => (if r1 = 0 then (some ((-1000000 : Int32), g2)) else (al g2 71 16 a0 fun v3 => (some (v3, g2))))
def fX7_count_L4 (l1 : Int32) (K : Int32 → Int32 → Mem → Option (Int32 × Mem)) : Nat → Int32 → Int32 → Mem → Option (Int32 × Mem)
  | 0, _, _, _ => none
  | n + 1, l2, l3, g => if (8 : Int32) ≤ l3 then (K l2 l3 g) else (al g 62 8 l3 fun v1 => (if 0 ≤ v1 then (lt ((l2 + (1 : Int32))) fun x2 => (fX7_count_L4 l1 K n x2 (l3 + (1 : Int32)) g)) else (lt ((l2 + (0 : Int32))) fun x3 => (fX7_count_L4 l1 K n x3 (l3 + (1 : Int32)) g))))
def fX7_count_L38 (l1 : Int32) (l2 : Int32) (K : Int32 → Int32 → Mem → Option (Int32 × Mem)) : Nat → Int32 → Int32 → Mem → Option (Int32 × Mem)
  | 0, _, _, _ => none
  | n + 1, l3, l4, g => if (4 : Int32) ≤ l4 then (K l3 l4 g) else (al g 66 50 ((38 : Int32) + l4) fun v7 => (if v7 = (1 : Int32) then (lt ((l3 + (1 : Int32))) fun x8 => (fX7_count_L38 l1 l2 K n x8 (l4 + (1 : Int32)) g)) else (lt ((l3 + (0 : Int32))) fun x9 => (fX7_count_L38 l1 l2 K n x9 (l4 + (1 : Int32)) g))))
def fX7_count (a0 : Int32) (g : Mem) : Option (Int32 × Mem) :=
  fX7_count_L4 a0 (fun l4 l5 g6 => fX7_count_L38 a0 l4 (fun l10 l11 g12 => if a0 = (0 : Int32) then (some (l4, g12)) else (if a0 = (1 : Int32) then (al g12 66 50 (3 : Int32) fun v15 => (some (v15, g12))) else (if a0 = (2 : Int32) then (al g12 66 50 (4 : Int32) fun v17 => (some (v17, g12))) else (if a0 = (3 : Int32) then (al g12 66 50 (5 : Int32) fun v19 => (some (v19, g12))) else (if a0 = (4 : Int32) then (al g12 66 50 (6 : Int32) fun v21 => (some (v21, g12))) else (if a0 = (5 : Int32) then (some (l10, g12)) else (if a0 = (6 : Int32) then (al g12 66 50 (7 : Int32) fun v24 => (some (v24, g12))) else (if a0 = (7 : Int32) then (al g12 66 50 (1 : Int32) fun v26 => (some (v26, g12))) else (if a0 = (8 : Int32) then (some ((g12 61 17), g12)) else (if a0 = (9 : Int32) then (some ((g12 61 4), g12)) else (some ((-1000001 : Int32), g12)))))))))))) FU (0 : Int32) (0 : Int32) g6) FU (0 : Int32) (0 : Int32) g
def fX7_status (g : Mem) : Option (Int32 × Mem) :=
  some ((g 61 3), g)
end
section
theorem zlt0 : 0 < 73 := by decide
theorem zsh0 : sh 0 = (0, 6, [some 1, some 5, some 7, some 17, some 27, some 48, some 55, some 58, some 60, none, none]) := by decide
theorem zrc0 : RC 0 RX6 := ⟨zlt0, 6, _, TX6, 11, zsh0, rfl⟩
theorem zlt1 : 1 < 73 := by decide
theorem zsh1 : sh 1 = (0, 4, [some 2, some 3, some 4]) := by decide
theorem zrc1 : RC 1 RX4 := ⟨zlt1, 4, _, TX4, 3, zsh1, rfl⟩
theorem zlt2 : 2 < 73 := by decide
theorem zsh2 : sh 2 = (1, 8, []) := by decide
theorem zlt3 : 3 < 73 := by decide
theorem zsh3 : sh 3 = (1, 8, []) := by decide
theorem zlt4 : 4 < 73 := by decide
theorem zsh4 : sh 4 = (1, 320, []) := by decide
theorem zlt5 : 5 < 73 := by decide
theorem zsh5 : sh 5 = (0, 5, [some 6, none, none, none, none]) := by decide
theorem zrc5 : RC 5 RX5 := ⟨zlt5, 5, _, TX5, 5, zsh5, rfl⟩
theorem zlt6 : 6 < 73 := by decide
theorem zsh6 : sh 6 = (1, 120, []) := by decide
theorem zlt7 : 7 < 73 := by decide
theorem zsh7 : sh 7 = (0, 2, [none, none, none, none, some 8, none, some 9, some 10, some 11, some 12, none, some 13, some 14, some 15, some 16, none, none]) := by decide
theorem zrc7 : RC 7 RX2 := ⟨zlt7, 2, _, TX2, 17, zsh7, rfl⟩
theorem zlt8 : 8 < 73 := by decide
theorem zsh8 : sh 8 = (1, 8, []) := by decide
theorem zlt9 : 9 < 73 := by decide
theorem zsh9 : sh 9 = (1, 6, []) := by decide
theorem zlt10 : 10 < 73 := by decide
theorem zsh10 : sh 10 = (1, 6, []) := by decide
theorem zlt11 : 11 < 73 := by decide
theorem zsh11 : sh 11 = (1, 6, []) := by decide
theorem zlt12 : 12 < 73 := by decide
theorem zsh12 : sh 12 = (1, 6, []) := by decide
theorem zlt13 : 13 < 73 := by decide
theorem zsh13 : sh 13 = (1, 4, []) := by decide
theorem zlt14 : 14 < 73 := by decide
theorem zsh14 : sh 14 = (1, 4, []) := by decide
theorem zlt15 : 15 < 73 := by decide
theorem zsh15 : sh 15 = (1, 4, []) := by decide
theorem zlt16 : 16 < 73 := by decide
theorem zsh16 : sh 16 = (1, 4, []) := by decide
theorem zlt17 : 17 < 73 := by decide
theorem zsh17 : sh 17 = (0, 2, [none, none, none, none, some 18, none, some 19, some 20, some 21, some 22, none, some 23, some 24, some 25, some 26, none, none]) := by decide
theorem zrc17 : RC 17 RX2 := ⟨zlt17, 2, _, TX2, 17, zsh17, rfl⟩
theorem zlt18 : 18 < 73 := by decide
theorem zsh18 : sh 18 = (1, 8, []) := by decide
theorem zlt19 : 19 < 73 := by decide
theorem zsh19 : sh 19 = (1, 6, []) := by decide
theorem zlt20 : 20 < 73 := by decide
theorem zsh20 : sh 20 = (1, 6, []) := by decide
theorem zlt21 : 21 < 73 := by decide
theorem zsh21 : sh 21 = (1, 6, []) := by decide
theorem zlt22 : 22 < 73 := by decide
theorem zsh22 : sh 22 = (1, 6, []) := by decide
theorem zlt23 : 23 < 73 := by decide
theorem zsh23 : sh 23 = (1, 4, []) := by decide
theorem zlt24 : 24 < 73 := by decide
theorem zsh24 : sh 24 = (1, 4, []) := by decide
theorem zlt25 : 25 < 73 := by decide
theorem zsh25 : sh 25 = (1, 4, []) := by decide
theorem zlt26 : 26 < 73 := by decide
theorem zsh26 : sh 26 = (1, 4, []) := by decide
theorem zlt27 : 27 < 73 := by decide
theorem zsh27 : sh 27 = (3, 2, [some 28, some 38]) := by decide
theorem zlt28 : 28 < 73 := by decide
theorem zsh28 : sh 28 = (0, 2, [none, none, none, none, some 29, none, some 30, some 31, some 32, some 33, none, some 34, some 35, some 36, some 37, none, none]) := by decide
theorem zrc28 : RC 28 RX2 := ⟨zlt28, 2, _, TX2, 17, zsh28, rfl⟩
theorem zlt29 : 29 < 73 := by decide
theorem zsh29 : sh 29 = (1, 8, []) := by decide
theorem zlt30 : 30 < 73 := by decide
theorem zsh30 : sh 30 = (1, 6, []) := by decide
theorem zlt31 : 31 < 73 := by decide
theorem zsh31 : sh 31 = (1, 6, []) := by decide
theorem zlt32 : 32 < 73 := by decide
theorem zsh32 : sh 32 = (1, 6, []) := by decide
theorem zlt33 : 33 < 73 := by decide
theorem zsh33 : sh 33 = (1, 6, []) := by decide
theorem zlt34 : 34 < 73 := by decide
theorem zsh34 : sh 34 = (1, 4, []) := by decide
theorem zlt35 : 35 < 73 := by decide
theorem zsh35 : sh 35 = (1, 4, []) := by decide
theorem zlt36 : 36 < 73 := by decide
theorem zsh36 : sh 36 = (1, 4, []) := by decide
theorem zlt37 : 37 < 73 := by decide
theorem zsh37 : sh 37 = (1, 4, []) := by decide
theorem zlt38 : 38 < 73 := by decide
theorem zsh38 : sh 38 = (0, 2, [none, none, none, none, some 39, none, some 40, some 41, some 42, some 43, none, some 44, some 45, some 46, some 47, none, none]) := by decide
theorem zrc38 : RC 38 RX2 := ⟨zlt38, 2, _, TX2, 17, zsh38, rfl⟩
theorem zlt39 : 39 < 73 := by decide
theorem zsh39 : sh 39 = (1, 8, []) := by decide
theorem zlt40 : 40 < 73 := by decide
theorem zsh40 : sh 40 = (1, 6, []) := by decide
theorem zlt41 : 41 < 73 := by decide
theorem zsh41 : sh 41 = (1, 6, []) := by decide
theorem zlt42 : 42 < 73 := by decide
theorem zsh42 : sh 42 = (1, 6, []) := by decide
theorem zlt43 : 43 < 73 := by decide
theorem zsh43 : sh 43 = (1, 6, []) := by decide
theorem zlt44 : 44 < 73 := by decide
theorem zsh44 : sh 44 = (1, 4, []) := by decide
theorem zlt45 : 45 < 73 := by decide
theorem zsh45 : sh 45 = (1, 4, []) := by decide
theorem zlt46 : 46 < 73 := by decide
theorem zsh46 : sh 46 = (1, 4, []) := by decide
theorem zlt47 : 47 < 73 := by decide
theorem zsh47 : sh 47 = (1, 4, []) := by decide
theorem zlt48 : 48 < 73 := by decide
theorem zsh48 : sh 48 = (0, 0, [some 49, some 50, some 51, some 52, some 53, some 54, none, none]) := by decide
theorem zrc48 : RC 48 RX0 := ⟨zlt48, 0, _, TX0, 8, zsh48, rfl⟩
theorem zlt49 : 49 < 73 := by decide
theorem zsh49 : sh 49 = (1, 24, []) := by decide
theorem zlt50 : 50 < 73 := by decide
theorem zsh50 : sh 50 = (1, 24, []) := by decide
theorem zlt51 : 51 < 73 := by decide
theorem zsh51 : sh 51 = (1, 24, []) := by decide
theorem zlt52 : 52 < 73 := by decide
theorem zsh52 : sh 52 = (1, 24, []) := by decide
theorem zlt53 : 53 < 73 := by decide
theorem zsh53 : sh 53 = (1, 24, []) := by decide
theorem zlt54 : 54 < 73 := by decide
theorem zsh54 : sh 54 = (1, 24, []) := by decide
theorem zlt55 : 55 < 73 := by decide
theorem zsh55 : sh 55 = (0, 3, [some 56, some 57]) := by decide
theorem zrc55 : RC 55 RX3 := ⟨zlt55, 3, _, TX3, 2, zsh55, rfl⟩
theorem zlt56 : 56 < 73 := by decide
theorem zsh56 : sh 56 = (1, 256, []) := by decide
theorem zlt57 : 57 < 73 := by decide
theorem zsh57 : sh 57 = (1, 5, []) := by decide
theorem zlt58 : 58 < 73 := by decide
theorem zsh58 : sh 58 = (0, 1, [some 59, none]) := by decide
theorem zrc58 : RC 58 RX1 := ⟨zlt58, 1, _, TX1, 2, zsh58, rfl⟩
theorem zlt59 : 59 < 73 := by decide
theorem zsh59 : sh 59 = (1, 16, []) := by decide
theorem zlt60 : 60 < 73 := by decide
theorem zsh60 : sh 60 = (1, 6, []) := by decide
theorem zlt61 : 61 < 73 := by decide
theorem zsh61 : sh 61 = (0, 7, [some 62, some 63, some 64, none, none, some 65, none, none, none, none, none, none, some 66, some 67, some 68, some 69, some 70, none, some 71, none, some 72]) := by decide
theorem zrc61 : RC 61 RX7 := ⟨zlt61, 7, _, TX7, 21, zsh61, rfl⟩
theorem zlt62 : 62 < 73 := by decide
theorem zsh62 : sh 62 = (1, 8, []) := by decide
theorem zlt63 : 63 < 73 := by decide
theorem zsh63 : sh 63 = (1, 8, []) := by decide
theorem zlt64 : 64 < 73 := by decide
theorem zsh64 : sh 64 = (1, 320, []) := by decide
theorem zlt65 : 65 < 73 := by decide
theorem zsh65 : sh 65 = (1, 120, []) := by decide
theorem zlt66 : 66 < 73 := by decide
theorem zsh66 : sh 66 = (1, 50, []) := by decide
theorem zlt67 : 67 < 73 := by decide
theorem zsh67 : sh 67 = (1, 50, []) := by decide
theorem zlt68 : 68 < 73 := by decide
theorem zsh68 : sh 68 = (1, 100, []) := by decide
theorem zlt69 : 69 < 73 := by decide
theorem zsh69 : sh 69 = (2, 2, []) := by decide
theorem zlt70 : 70 < 73 := by decide
theorem zsh70 : sh 70 = (1, 1200, []) := by decide
theorem zlt71 : 71 < 73 := by decide
theorem zsh71 : sh 71 = (1, 16, []) := by decide
theorem zlt72 : 72 < 73 := by decide
theorem zsh72 : sh 72 = (1, 256, []) := by decide
def CO (c : Nat) : Prop := c = 7 ∨ c = 17 ∨ c = 28 ∨ c = 38
theorem CO_of7 : CO 7 := Or.inl rfl
theorem CO_of17 : CO 17 := Or.inr (Or.inl rfl)
theorem CO_of28 : CO 28 := Or.inr (Or.inr (Or.inl rfl))
theorem CO_of38 : CO 38 := Or.inr (Or.inr (Or.inr rfl))
theorem CO_lt0 {c : Nat} (h : CO c) : c < 73 := by rcases h with rfl | rfl | rfl | rfl <;> decide
theorem CO_sh0 {c : Nat} (h : CO c) : sh c = (0, 2, [none, none, none, none, some (c + 1), none, some (c + 2), some (c + 3), some (c + 4), some (c + 5), none, some (c + 6), some (c + 7), some (c + 8), some (c + 9), none, none]) := by rcases h with rfl | rfl | rfl | rfl <;> decide
theorem CO_lt1 {c : Nat} (h : CO c) : c + 1 < 73 := by rcases h with rfl | rfl | rfl | rfl <;> decide
theorem CO_sh1 {c : Nat} (h : CO c) : sh (c + 1) = (1, 8, []) := by rcases h with rfl | rfl | rfl | rfl <;> decide
theorem CO_lt2 {c : Nat} (h : CO c) : c + 2 < 73 := by rcases h with rfl | rfl | rfl | rfl <;> decide
theorem CO_sh2 {c : Nat} (h : CO c) : sh (c + 2) = (1, 6, []) := by rcases h with rfl | rfl | rfl | rfl <;> decide
theorem CO_lt3 {c : Nat} (h : CO c) : c + 3 < 73 := by rcases h with rfl | rfl | rfl | rfl <;> decide
theorem CO_sh3 {c : Nat} (h : CO c) : sh (c + 3) = (1, 6, []) := by rcases h with rfl | rfl | rfl | rfl <;> decide
theorem CO_lt4 {c : Nat} (h : CO c) : c + 4 < 73 := by rcases h with rfl | rfl | rfl | rfl <;> decide
theorem CO_sh4 {c : Nat} (h : CO c) : sh (c + 4) = (1, 6, []) := by rcases h with rfl | rfl | rfl | rfl <;> decide
theorem CO_lt5 {c : Nat} (h : CO c) : c + 5 < 73 := by rcases h with rfl | rfl | rfl | rfl <;> decide
theorem CO_sh5 {c : Nat} (h : CO c) : sh (c + 5) = (1, 6, []) := by rcases h with rfl | rfl | rfl | rfl <;> decide
theorem CO_lt6 {c : Nat} (h : CO c) : c + 6 < 73 := by rcases h with rfl | rfl | rfl | rfl <;> decide
theorem CO_sh6 {c : Nat} (h : CO c) : sh (c + 6) = (1, 4, []) := by rcases h with rfl | rfl | rfl | rfl <;> decide
theorem CO_lt7 {c : Nat} (h : CO c) : c + 7 < 73 := by rcases h with rfl | rfl | rfl | rfl <;> decide
theorem CO_sh7 {c : Nat} (h : CO c) : sh (c + 7) = (1, 4, []) := by rcases h with rfl | rfl | rfl | rfl <;> decide
theorem CO_lt8 {c : Nat} (h : CO c) : c + 8 < 73 := by rcases h with rfl | rfl | rfl | rfl <;> decide
theorem CO_sh8 {c : Nat} (h : CO c) : sh (c + 8) = (1, 4, []) := by rcases h with rfl | rfl | rfl | rfl <;> decide
theorem CO_lt9 {c : Nat} (h : CO c) : c + 9 < 73 := by rcases h with rfl | rfl | rfl | rfl <;> decide
theorem CO_sh9 {c : Nat} (h : CO c) : sh (c + 9) = (1, 4, []) := by rcases h with rfl | rfl | rfl | rfl <;> decide
theorem CO_rc {c : Nat} (h : CO c) : RC c RX2 := ⟨CO_lt0 h, 2, _, TX2, 17, CO_sh0 h, rfl⟩
end
