section
-- ===== PART A: goes FIRST, ahead of the names: the tables' words, and 'selects' of the private methods out of them =====
/-- a private method of a class that the tables say can be made, by its rows of tables_1 -/
def lw_okq (q : MethodName × Nat) : Prop := (q.1.cls ≠ "java/lang/invoke/MethodHandle" ∧ q.1.cls ≠ "java/lang/invoke/VarHandle") ∧ Cond.instantiable q.1.cls q.2 ∈ tables_1 ∧ Cond.privateMethod q.1 ∈ tables_1 ∧ Cond.instanceMethod q.1 ∈ tables_1
theorem lw_p0 : lw_okq (⟨"ThreeRiddles", "found", "(I)I"⟩, 11) := ⟨⟨by decide +kernel, by decide +kernel⟩, List.mem_of_getElem? (i := 14) (by decide +kernel), List.mem_of_getElem? (i := 265) (by decide +kernel), List.mem_of_getElem? (i := 266) (by decide +kernel)⟩
theorem lw_p1 : lw_okq (⟨"ThreeRiddles", "clean", "(I)I"⟩, 11) := ⟨⟨by decide +kernel, by decide +kernel⟩, List.mem_of_getElem? (i := 14) (by decide +kernel), List.mem_of_getElem? (i := 280) (by decide +kernel), List.mem_of_getElem? (i := 281) (by decide +kernel)⟩
theorem lw_p2 : lw_okq (⟨"ThreeRiddles$Tape", "tellsLaw", "(LThreeRiddles$Court;)Z"⟩, 5) := ⟨⟨by decide +kernel, by decide +kernel⟩, List.mem_of_getElem? (i := 39) (by decide +kernel), List.mem_of_getElem? (i := 347) (by decide +kernel), List.mem_of_getElem? (i := 348) (by decide +kernel)⟩
theorem lw_p3 : lw_okq (⟨"ThreeRiddles$Tape", "takes", "(I)Z"⟩, 5) := ⟨⟨by decide +kernel, by decide +kernel⟩, List.mem_of_getElem? (i := 39) (by decide +kernel), List.mem_of_getElem? (i := 351) (by decide +kernel), List.mem_of_getElem? (i := 352) (by decide +kernel)⟩
theorem lw_p4 : lw_okq (⟨"ThreeRiddles$Tape", "next", "()I"⟩, 5) := ⟨⟨by decide +kernel, by decide +kernel⟩, List.mem_of_getElem? (i := 39) (by decide +kernel), List.mem_of_getElem? (i := 355) (by decide +kernel), List.mem_of_getElem? (i := 356) (by decide +kernel)⟩
theorem lw_p5 : lw_okq (⟨"ThreeRiddles$Tape", "faulty", "(I)Z"⟩, 5) := ⟨⟨by decide +kernel, by decide +kernel⟩, List.mem_of_getElem? (i := 39) (by decide +kernel), List.mem_of_getElem? (i := 359) (by decide +kernel), List.mem_of_getElem? (i := 360) (by decide +kernel)⟩
theorem lw_p6 : lw_okq (⟨"ThreeRiddles$Tape", "takesNumber", "(II)Z"⟩, 5) := ⟨⟨by decide +kernel, by decide +kernel⟩, List.mem_of_getElem? (i := 39) (by decide +kernel), List.mem_of_getElem? (i := 363) (by decide +kernel), List.mem_of_getElem? (i := 364) (by decide +kernel)⟩
theorem lw_p7 : lw_okq (⟨"ThreeRiddles$Tape", "tellsThings", "(LThreeRiddles$Court;)Z"⟩, 5) := ⟨⟨by decide +kernel, by decide +kernel⟩, List.mem_of_getElem? (i := 39) (by decide +kernel), List.mem_of_getElem? (i := 367) (by decide +kernel), List.mem_of_getElem? (i := 368) (by decide +kernel)⟩
theorem lw_p8 : lw_okq (⟨"ThreeRiddles$Tape", "tellsRiddles", "(LThreeRiddles$Court;)Z"⟩, 5) := ⟨⟨by decide +kernel, by decide +kernel⟩, List.mem_of_getElem? (i := 39) (by decide +kernel), List.mem_of_getElem? (i := 371) (by decide +kernel), List.mem_of_getElem? (i := 372) (by decide +kernel)⟩
theorem lw_p9 : lw_okq (⟨"ThreeRiddles$Tape", "tellsRiddle", "(LThreeRiddles$Court;I)Z"⟩, 5) := ⟨⟨by decide +kernel, by decide +kernel⟩, List.mem_of_getElem? (i := 39) (by decide +kernel), List.mem_of_getElem? (i := 378) (by decide +kernel), List.mem_of_getElem? (i := 379) (by decide +kernel)⟩
theorem lw_p10 : lw_okq (⟨"ThreeRiddles$Tape", "tellsSuitors", "(LThreeRiddles$Court;)Z"⟩, 5) := ⟨⟨by decide +kernel, by decide +kernel⟩, List.mem_of_getElem? (i := 39) (by decide +kernel), List.mem_of_getElem? (i := 395) (by decide +kernel), List.mem_of_getElem? (i := 396) (by decide +kernel)⟩
theorem lw_p11 : lw_okq (⟨"ThreeRiddles$Foretold", "gatherByTraits", "(LThreeRiddles$Court;)V"⟩, 2) := ⟨⟨by decide +kernel, by decide +kernel⟩, List.mem_of_getElem? (i := 197) (by decide +kernel), List.mem_of_getElem? (i := 602) (by decide +kernel), List.mem_of_getElem? (i := 603) (by decide +kernel)⟩
theorem lw_p12 : lw_okq (⟨"ThreeRiddles$Foretold", "fewestOfAll", "(I)I"⟩, 2) := ⟨⟨by decide +kernel, by decide +kernel⟩, List.mem_of_getElem? (i := 197) (by decide +kernel), List.mem_of_getElem? (i := 607) (by decide +kernel), List.mem_of_getElem? (i := 608) (by decide +kernel)⟩
theorem lw_p13 : lw_okq (⟨"ThreeRiddles$Foretold", "splits", "(II)Z"⟩, 2) := ⟨⟨by decide +kernel, by decide +kernel⟩, List.mem_of_getElem? (i := 197) (by decide +kernel), List.mem_of_getElem? (i := 611) (by decide +kernel), List.mem_of_getElem? (i := 612) (by decide +kernel)⟩
theorem lw_p14 : lw_okq (⟨"ThreeRiddles$Foretold", "questionsBy", "(II)I"⟩, 2) := ⟨⟨by decide +kernel, by decide +kernel⟩, List.mem_of_getElem? (i := 197) (by decide +kernel), List.mem_of_getElem? (i := 615) (by decide +kernel), List.mem_of_getElem? (i := 616) (by decide +kernel)⟩
theorem lw_p15 : lw_okq (⟨"ThreeRiddles$Foretold", "firstTrait", "(I)I"⟩, 2) := ⟨⟨by decide +kernel, by decide +kernel⟩, List.mem_of_getElem? (i := 197) (by decide +kernel), List.mem_of_getElem? (i := 620) (by decide +kernel), List.mem_of_getElem? (i := 621) (by decide +kernel)⟩
def lw_privs_1 : List (MethodName × Nat) := [(⟨"ThreeRiddles", "found", "(I)I"⟩, 11), (⟨"ThreeRiddles", "clean", "(I)I"⟩, 11), (⟨"ThreeRiddles$Tape", "tellsLaw", "(LThreeRiddles$Court;)Z"⟩, 5), (⟨"ThreeRiddles$Tape", "takes", "(I)Z"⟩, 5), (⟨"ThreeRiddles$Tape", "next", "()I"⟩, 5), (⟨"ThreeRiddles$Tape", "faulty", "(I)Z"⟩, 5), (⟨"ThreeRiddles$Tape", "takesNumber", "(II)Z"⟩, 5), (⟨"ThreeRiddles$Tape", "tellsThings", "(LThreeRiddles$Court;)Z"⟩, 5), (⟨"ThreeRiddles$Tape", "tellsRiddles", "(LThreeRiddles$Court;)Z"⟩, 5), (⟨"ThreeRiddles$Tape", "tellsRiddle", "(LThreeRiddles$Court;I)Z"⟩, 5), (⟨"ThreeRiddles$Tape", "tellsSuitors", "(LThreeRiddles$Court;)Z"⟩, 5), (⟨"ThreeRiddles$Foretold", "gatherByTraits", "(LThreeRiddles$Court;)V"⟩, 2), (⟨"ThreeRiddles$Foretold", "fewestOfAll", "(I)I"⟩, 2), (⟨"ThreeRiddles$Foretold", "splits", "(II)Z"⟩, 2), (⟨"ThreeRiddles$Foretold", "questionsBy", "(II)I"⟩, 2), (⟨"ThreeRiddles$Foretold", "firstTrait", "(I)I"⟩, 2)]
theorem lw_r1 : ∀ q ∈ lw_privs_1, lw_okq q := List.forall_mem_cons.mpr ⟨lw_p0, List.forall_mem_cons.mpr ⟨lw_p1, List.forall_mem_cons.mpr ⟨lw_p2, List.forall_mem_cons.mpr ⟨lw_p3, List.forall_mem_cons.mpr ⟨lw_p4, List.forall_mem_cons.mpr ⟨lw_p5, List.forall_mem_cons.mpr ⟨lw_p6, List.forall_mem_cons.mpr ⟨lw_p7, List.forall_mem_cons.mpr ⟨lw_p8, List.forall_mem_cons.mpr ⟨lw_p9, List.forall_mem_cons.mpr ⟨lw_p10, List.forall_mem_cons.mpr ⟨lw_p11, List.forall_mem_cons.mpr ⟨lw_p12, List.forall_mem_cons.mpr ⟨lw_p13, List.forall_mem_cons.mpr ⟨lw_p14, List.forall_mem_cons.mpr ⟨lw_p15, fun _ h => absurd h List.not_mem_nil⟩⟩⟩⟩⟩⟩⟩⟩⟩⟩⟩⟩⟩⟩⟩⟩
theorem lw_p16 : lw_okq (⟨"ThreeRiddles$Asks", "sizeOfPlain", "(LThreeRiddles$Court;I)I"⟩, 2) := ⟨⟨by decide +kernel, by decide +kernel⟩, List.mem_of_getElem? (i := 210) (by decide +kernel), List.mem_of_getElem? (i := 670) (by decide +kernel), List.mem_of_getElem? (i := 671) (by decide +kernel)⟩
theorem lw_p17 : lw_okq (⟨"ThreeRiddles$Asks", "leave", "(I)V"⟩, 2) := ⟨⟨by decide +kernel, by decide +kernel⟩, List.mem_of_getElem? (i := 210) (by decide +kernel), List.mem_of_getElem? (i := 674) (by decide +kernel), List.mem_of_getElem? (i := 675) (by decide +kernel)⟩
theorem lw_p18 : lw_okq (⟨"ThreeRiddles$Asks", "sizeOfAll", "(LThreeRiddles$Court;I)I"⟩, 2) := ⟨⟨by decide +kernel, by decide +kernel⟩, List.mem_of_getElem? (i := 210) (by decide +kernel), List.mem_of_getElem? (i := 678) (by decide +kernel), List.mem_of_getElem? (i := 679) (by decide +kernel)⟩
theorem lw_p19 : lw_okq (⟨"ThreeRiddles$Asks", "markOfPlain", "(LThreeRiddles$Court;I)I"⟩, 2) := ⟨⟨by decide +kernel, by decide +kernel⟩, List.mem_of_getElem? (i := 210) (by decide +kernel), List.mem_of_getElem? (i := 683) (by decide +kernel), List.mem_of_getElem? (i := 684) (by decide +kernel)⟩
theorem lw_p20 : lw_okq (⟨"ThreeRiddles$Asks", "markOfAll", "(I)I"⟩, 2) := ⟨⟨by decide +kernel, by decide +kernel⟩, List.mem_of_getElem? (i := 210) (by decide +kernel), List.mem_of_getElem? (i := 687) (by decide +kernel), List.mem_of_getElem? (i := 688) (by decide +kernel)⟩
theorem lw_p21 : lw_okq (⟨"ThreeRiddles$Asks", "sizeOfLying", "(LThreeRiddles$Court;I)I"⟩, 2) := ⟨⟨by decide +kernel, by decide +kernel⟩, List.mem_of_getElem? (i := 210) (by decide +kernel), List.mem_of_getElem? (i := 691) (by decide +kernel), List.mem_of_getElem? (i := 692) (by decide +kernel)⟩
theorem lw_p22 : lw_okq (⟨"ThreeRiddles$Asks", "markOfLying", "(LThreeRiddles$Court;I)I"⟩, 2) := ⟨⟨by decide +kernel, by decide +kernel⟩, List.mem_of_getElem? (i := 210) (by decide +kernel), List.mem_of_getElem? (i := 695) (by decide +kernel), List.mem_of_getElem? (i := 696) (by decide +kernel)⟩
theorem lw_p23 : lw_okq (⟨"ThreeRiddlesModel", "finds", "(I)I"⟩, 21) := ⟨⟨by decide +kernel, by decide +kernel⟩, List.mem_of_getElem? (i := 721) (by decide +kernel), List.mem_of_getElem? (i := 803) (by decide +kernel), List.mem_of_getElem? (i := 804) (by decide +kernel)⟩
theorem lw_p24 : lw_okq (⟨"ThreeRiddlesModel", "done", "(I)I"⟩, 21) := ⟨⟨by decide +kernel, by decide +kernel⟩, List.mem_of_getElem? (i := 721) (by decide +kernel), List.mem_of_getElem? (i := 808) (by decide +kernel), List.mem_of_getElem? (i := 809) (by decide +kernel)⟩
theorem lw_p25 : lw_okq (⟨"ThreeRiddlesModel", "isRead", "()Z"⟩, 21) := ⟨⟨by decide +kernel, by decide +kernel⟩, List.mem_of_getElem? (i := 721) (by decide +kernel), List.mem_of_getElem? (i := 836) (by decide +kernel), List.mem_of_getElem? (i := 837) (by decide +kernel)⟩
theorem lw_p26 : lw_okq (⟨"ThreeRiddlesModel", "isLaw", "()Z"⟩, 21) := ⟨⟨by decide +kernel, by decide +kernel⟩, List.mem_of_getElem? (i := 721) (by decide +kernel), List.mem_of_getElem? (i := 840) (by decide +kernel), List.mem_of_getElem? (i := 841) (by decide +kernel)⟩
theorem lw_p27 : lw_okq (⟨"ThreeRiddlesModel", "isSign", "(I)Z"⟩, 21) := ⟨⟨by decide +kernel, by decide +kernel⟩, List.mem_of_getElem? (i := 721) (by decide +kernel), List.mem_of_getElem? (i := 844) (by decide +kernel), List.mem_of_getElem? (i := 845) (by decide +kernel)⟩
theorem lw_p28 : lw_okq (⟨"ThreeRiddlesModel", "nextToken", "()V"⟩, 21) := ⟨⟨by decide +kernel, by decide +kernel⟩, List.mem_of_getElem? (i := 721) (by decide +kernel), List.mem_of_getElem? (i := 848) (by decide +kernel), List.mem_of_getElem? (i := 849) (by decide +kernel)⟩
theorem lw_p29 : lw_okq (⟨"ThreeRiddlesModel", "fails", "(I)Z"⟩, 21) := ⟨⟨by decide +kernel, by decide +kernel⟩, List.mem_of_getElem? (i := 721) (by decide +kernel), List.mem_of_getElem? (i := 852) (by decide +kernel), List.mem_of_getElem? (i := 853) (by decide +kernel)⟩
theorem lw_p30 : lw_okq (⟨"ThreeRiddlesModel", "isNumber", "(I)Z"⟩, 21) := ⟨⟨by decide +kernel, by decide +kernel⟩, List.mem_of_getElem? (i := 721) (by decide +kernel), List.mem_of_getElem? (i := 856) (by decide +kernel), List.mem_of_getElem? (i := 857) (by decide +kernel)⟩
theorem lw_p31 : lw_okq (⟨"ThreeRiddlesModel", "isThing", "()Z"⟩, 21) := ⟨⟨by decide +kernel, by decide +kernel⟩, List.mem_of_getElem? (i := 721) (by decide +kernel), List.mem_of_getElem? (i := 860) (by decide +kernel), List.mem_of_getElem? (i := 861) (by decide +kernel)⟩
def lw_privs_2 : List (MethodName × Nat) := [(⟨"ThreeRiddles$Asks", "sizeOfPlain", "(LThreeRiddles$Court;I)I"⟩, 2), (⟨"ThreeRiddles$Asks", "leave", "(I)V"⟩, 2), (⟨"ThreeRiddles$Asks", "sizeOfAll", "(LThreeRiddles$Court;I)I"⟩, 2), (⟨"ThreeRiddles$Asks", "markOfPlain", "(LThreeRiddles$Court;I)I"⟩, 2), (⟨"ThreeRiddles$Asks", "markOfAll", "(I)I"⟩, 2), (⟨"ThreeRiddles$Asks", "sizeOfLying", "(LThreeRiddles$Court;I)I"⟩, 2), (⟨"ThreeRiddles$Asks", "markOfLying", "(LThreeRiddles$Court;I)I"⟩, 2), (⟨"ThreeRiddlesModel", "finds", "(I)I"⟩, 21), (⟨"ThreeRiddlesModel", "done", "(I)I"⟩, 21), (⟨"ThreeRiddlesModel", "isRead", "()Z"⟩, 21), (⟨"ThreeRiddlesModel", "isLaw", "()Z"⟩, 21), (⟨"ThreeRiddlesModel", "isSign", "(I)Z"⟩, 21), (⟨"ThreeRiddlesModel", "nextToken", "()V"⟩, 21), (⟨"ThreeRiddlesModel", "fails", "(I)Z"⟩, 21), (⟨"ThreeRiddlesModel", "isNumber", "(I)Z"⟩, 21), (⟨"ThreeRiddlesModel", "isThing", "()Z"⟩, 21)]
theorem lw_r2 : ∀ q ∈ lw_privs_2, lw_okq q := List.forall_mem_cons.mpr ⟨lw_p16, List.forall_mem_cons.mpr ⟨lw_p17, List.forall_mem_cons.mpr ⟨lw_p18, List.forall_mem_cons.mpr ⟨lw_p19, List.forall_mem_cons.mpr ⟨lw_p20, List.forall_mem_cons.mpr ⟨lw_p21, List.forall_mem_cons.mpr ⟨lw_p22, List.forall_mem_cons.mpr ⟨lw_p23, List.forall_mem_cons.mpr ⟨lw_p24, List.forall_mem_cons.mpr ⟨lw_p25, List.forall_mem_cons.mpr ⟨lw_p26, List.forall_mem_cons.mpr ⟨lw_p27, List.forall_mem_cons.mpr ⟨lw_p28, List.forall_mem_cons.mpr ⟨lw_p29, List.forall_mem_cons.mpr ⟨lw_p30, List.forall_mem_cons.mpr ⟨lw_p31, fun _ h => absurd h List.not_mem_nil⟩⟩⟩⟩⟩⟩⟩⟩⟩⟩⟩⟩⟩⟩⟩⟩
theorem lw_p32 : lw_okq (⟨"ThreeRiddlesModel", "isRiddle", "()Z"⟩, 21) := ⟨⟨by decide +kernel, by decide +kernel⟩, List.mem_of_getElem? (i := 721) (by decide +kernel), List.mem_of_getElem? (i := 867) (by decide +kernel), List.mem_of_getElem? (i := 868) (by decide +kernel)⟩
theorem lw_p33 : lw_okq (⟨"ThreeRiddlesModel", "isSuitor", "()Z"⟩, 21) := ⟨⟨by decide +kernel, by decide +kernel⟩, List.mem_of_getElem? (i := 721) (by decide +kernel), List.mem_of_getElem? (i := 871) (by decide +kernel), List.mem_of_getElem? (i := 872) (by decide +kernel)⟩
theorem lw_p34 : lw_okq (⟨"ThreeRiddlesModel", "everything", "()I"⟩, 21) := ⟨⟨by decide +kernel, by decide +kernel⟩, List.mem_of_getElem? (i := 721) (by decide +kernel), List.mem_of_getElem? (i := 879) (by decide +kernel), List.mem_of_getElem? (i := 880) (by decide +kernel)⟩
theorem lw_p35 : lw_okq (⟨"ThreeRiddlesModel", "isSuitorAt", "(I)Z"⟩, 21) := ⟨⟨by decide +kernel, by decide +kernel⟩, List.mem_of_getElem? (i := 721) (by decide +kernel), List.mem_of_getElem? (i := 891) (by decide +kernel), List.mem_of_getElem? (i := 892) (by decide +kernel)⟩
theorem lw_p36 : lw_okq (⟨"ThreeRiddlesModel", "isRiddleAt", "(I)Z"⟩, 21) := ⟨⟨by decide +kernel, by decide +kernel⟩, List.mem_of_getElem? (i := 721) (by decide +kernel), List.mem_of_getElem? (i := 895) (by decide +kernel), List.mem_of_getElem? (i := 896) (by decide +kernel)⟩
theorem lw_p37 : lw_okq (⟨"ThreeRiddlesModel", "isOpen", "(I)Z"⟩, 21) := ⟨⟨by decide +kernel, by decide +kernel⟩, List.mem_of_getElem? (i := 721) (by decide +kernel), List.mem_of_getElem? (i := 899) (by decide +kernel), List.mem_of_getElem? (i := 900) (by decide +kernel)⟩
theorem lw_p38 : lw_okq (⟨"ThreeRiddlesModel", "isAnyWed", "()Z"⟩, 21) := ⟨⟨by decide +kernel, by decide +kernel⟩, List.mem_of_getElem? (i := 721) (by decide +kernel), List.mem_of_getElem? (i := 906) (by decide +kernel), List.mem_of_getElem? (i := 907) (by decide +kernel)⟩
theorem lw_p39 : lw_okq (⟨"ThreeRiddlesModel", "act", "()V"⟩, 21) := ⟨⟨by decide +kernel, by decide +kernel⟩, List.mem_of_getElem? (i := 721) (by decide +kernel), List.mem_of_getElem? (i := 911) (by decide +kernel), List.mem_of_getElem? (i := 912) (by decide +kernel)⟩
theorem lw_p40 : lw_okq (⟨"ThreeRiddlesModel", "saysAt", "(II)I"⟩, 21) := ⟨⟨by decide +kernel, by decide +kernel⟩, List.mem_of_getElem? (i := 721) (by decide +kernel), List.mem_of_getElem? (i := 915) (by decide +kernel), List.mem_of_getElem? (i := 916) (by decide +kernel)⟩
theorem lw_p41 : lw_okq (⟨"ThreeRiddlesModel", "fittersAt", "(I)I"⟩, 21) := ⟨⟨by decide +kernel, by decide +kernel⟩, List.mem_of_getElem? (i := 721) (by decide +kernel), List.mem_of_getElem? (i := 919) (by decide +kernel), List.mem_of_getElem? (i := 920) (by decide +kernel)⟩
theorem lw_p42 : lw_okq (⟨"ThreeRiddlesModel", "fittersOf", "(III)I"⟩, 21) := ⟨⟨by decide +kernel, by decide +kernel⟩, List.mem_of_getElem? (i := 721) (by decide +kernel), List.mem_of_getElem? (i := 923) (by decide +kernel), List.mem_of_getElem? (i := 924) (by decide +kernel)⟩
theorem lw_p43 : lw_okq (⟨"ThreeRiddlesModel", "answerAt", "(I)I"⟩, 21) := ⟨⟨by decide +kernel, by decide +kernel⟩, List.mem_of_getElem? (i := 721) (by decide +kernel), List.mem_of_getElem? (i := 937) (by decide +kernel), List.mem_of_getElem? (i := 938) (by decide +kernel)⟩
theorem lw_p44 : lw_okq (⟨"ThreeRiddlesModel", "sheSaysAt", "(I)I"⟩, 21) := ⟨⟨by decide +kernel, by decide +kernel⟩, List.mem_of_getElem? (i := 721) (by decide +kernel), List.mem_of_getElem? (i := 945) (by decide +kernel), List.mem_of_getElem? (i := 946) (by decide +kernel)⟩
theorem lw_p45 : lw_okq (⟨"ThreeRiddlesModel", "isThingAt", "(I)Z"⟩, 21) := ⟨⟨by decide +kernel, by decide +kernel⟩, List.mem_of_getElem? (i := 721) (by decide +kernel), List.mem_of_getElem? (i := 953) (by decide +kernel), List.mem_of_getElem? (i := 954) (by decide +kernel)⟩
theorem lw_p46 : lw_okq (⟨"ThreeRiddlesModel", "costOf", "(I)I"⟩, 21) := ⟨⟨by decide +kernel, by decide +kernel⟩, List.mem_of_getElem? (i := 721) (by decide +kernel), List.mem_of_getElem? (i := 957) (by decide +kernel), List.mem_of_getElem? (i := 958) (by decide +kernel)⟩
theorem lw_p47 : lw_okq (⟨"ThreeRiddlesModel", "isCourt", "()Z"⟩, 21) := ⟨⟨by decide +kernel, by decide +kernel⟩, List.mem_of_getElem? (i := 721) (by decide +kernel), List.mem_of_getElem? (i := 989) (by decide +kernel), List.mem_of_getElem? (i := 990) (by decide +kernel)⟩
def lw_privs_3 : List (MethodName × Nat) := [(⟨"ThreeRiddlesModel", "isRiddle", "()Z"⟩, 21), (⟨"ThreeRiddlesModel", "isSuitor", "()Z"⟩, 21), (⟨"ThreeRiddlesModel", "everything", "()I"⟩, 21), (⟨"ThreeRiddlesModel", "isSuitorAt", "(I)Z"⟩, 21), (⟨"ThreeRiddlesModel", "isRiddleAt", "(I)Z"⟩, 21), (⟨"ThreeRiddlesModel", "isOpen", "(I)Z"⟩, 21), (⟨"ThreeRiddlesModel", "isAnyWed", "()Z"⟩, 21), (⟨"ThreeRiddlesModel", "act", "()V"⟩, 21), (⟨"ThreeRiddlesModel", "saysAt", "(II)I"⟩, 21), (⟨"ThreeRiddlesModel", "fittersAt", "(I)I"⟩, 21), (⟨"ThreeRiddlesModel", "fittersOf", "(III)I"⟩, 21), (⟨"ThreeRiddlesModel", "answerAt", "(I)I"⟩, 21), (⟨"ThreeRiddlesModel", "sheSaysAt", "(I)I"⟩, 21), (⟨"ThreeRiddlesModel", "isThingAt", "(I)Z"⟩, 21), (⟨"ThreeRiddlesModel", "costOf", "(I)I"⟩, 21), (⟨"ThreeRiddlesModel", "isCourt", "()Z"⟩, 21)]
theorem lw_r3 : ∀ q ∈ lw_privs_3, lw_okq q := List.forall_mem_cons.mpr ⟨lw_p32, List.forall_mem_cons.mpr ⟨lw_p33, List.forall_mem_cons.mpr ⟨lw_p34, List.forall_mem_cons.mpr ⟨lw_p35, List.forall_mem_cons.mpr ⟨lw_p36, List.forall_mem_cons.mpr ⟨lw_p37, List.forall_mem_cons.mpr ⟨lw_p38, List.forall_mem_cons.mpr ⟨lw_p39, List.forall_mem_cons.mpr ⟨lw_p40, List.forall_mem_cons.mpr ⟨lw_p41, List.forall_mem_cons.mpr ⟨lw_p42, List.forall_mem_cons.mpr ⟨lw_p43, List.forall_mem_cons.mpr ⟨lw_p44, List.forall_mem_cons.mpr ⟨lw_p45, List.forall_mem_cons.mpr ⟨lw_p46, List.forall_mem_cons.mpr ⟨lw_p47, fun _ h => absurd h List.not_mem_nil⟩⟩⟩⟩⟩⟩⟩⟩⟩⟩⟩⟩⟩⟩⟩⟩
theorem lw_p48 : lw_okq (⟨"ThreeRiddlesModel", "deepBy", "(II)I"⟩, 21) := ⟨⟨by decide +kernel, by decide +kernel⟩, List.mem_of_getElem? (i := 721) (by decide +kernel), List.mem_of_getElem? (i := 1012) (by decide +kernel), List.mem_of_getElem? (i := 1013) (by decide +kernel)⟩
theorem lw_p49 : lw_okq (⟨"ThreeRiddlesModel", "havers", "(II)I"⟩, 21) := ⟨⟨by decide +kernel, by decide +kernel⟩, List.mem_of_getElem? (i := 721) (by decide +kernel), List.mem_of_getElem? (i := 1016) (by decide +kernel), List.mem_of_getElem? (i := 1017) (by decide +kernel)⟩
theorem lw_p50 : lw_okq (⟨"ThreeRiddlesModel", "kindAt", "(I)I"⟩, 21) := ⟨⟨by decide +kernel, by decide +kernel⟩, List.mem_of_getElem? (i := 721) (by decide +kernel), List.mem_of_getElem? (i := 1036) (by decide +kernel), List.mem_of_getElem? (i := 1037) (by decide +kernel)⟩
theorem lw_p51 : lw_okq (⟨"ThreeRiddlesModel", "sizeOf", "(I)I"⟩, 21) := ⟨⟨by decide +kernel, by decide +kernel⟩, List.mem_of_getElem? (i := 721) (by decide +kernel), List.mem_of_getElem? (i := 1051) (by decide +kernel), List.mem_of_getElem? (i := 1052) (by decide +kernel)⟩
theorem lw_p52 : lw_okq (⟨"ThreeRiddlesModel", "begins", "(I)V"⟩, 21) := ⟨⟨by decide +kernel, by decide +kernel⟩, List.mem_of_getElem? (i := 721) (by decide +kernel), List.mem_of_getElem? (i := 1055) (by decide +kernel), List.mem_of_getElem? (i := 1056) (by decide +kernel)⟩
theorem lw_p53 : lw_okq (⟨"ThreeRiddlesModel", "sizeLying", "(I)I"⟩, 21) := ⟨⟨by decide +kernel, by decide +kernel⟩, List.mem_of_getElem? (i := 721) (by decide +kernel), List.mem_of_getElem? (i := 1059) (by decide +kernel), List.mem_of_getElem? (i := 1060) (by decide +kernel)⟩
theorem lw_p54 : lw_okq (⟨"ThreeRiddlesModel", "markByKind", "(I)I"⟩, 21) := ⟨⟨by decide +kernel, by decide +kernel⟩, List.mem_of_getElem? (i := 721) (by decide +kernel), List.mem_of_getElem? (i := 1063) (by decide +kernel), List.mem_of_getElem? (i := 1064) (by decide +kernel)⟩
theorem lw_p55 : lw_okq (⟨"ThreeRiddlesModel", "markPlain", "(I)I"⟩, 21) := ⟨⟨by decide +kernel, by decide +kernel⟩, List.mem_of_getElem? (i := 721) (by decide +kernel), List.mem_of_getElem? (i := 1067) (by decide +kernel), List.mem_of_getElem? (i := 1068) (by decide +kernel)⟩
theorem lw_p56 : lw_okq (⟨"ThreeRiddlesModel", "markOf", "(I)I"⟩, 21) := ⟨⟨by decide +kernel, by decide +kernel⟩, List.mem_of_getElem? (i := 721) (by decide +kernel), List.mem_of_getElem? (i := 1071) (by decide +kernel), List.mem_of_getElem? (i := 1072) (by decide +kernel)⟩
def lw_privs_4 : List (MethodName × Nat) := [(⟨"ThreeRiddlesModel", "deepBy", "(II)I"⟩, 21), (⟨"ThreeRiddlesModel", "havers", "(II)I"⟩, 21), (⟨"ThreeRiddlesModel", "kindAt", "(I)I"⟩, 21), (⟨"ThreeRiddlesModel", "sizeOf", "(I)I"⟩, 21), (⟨"ThreeRiddlesModel", "begins", "(I)V"⟩, 21), (⟨"ThreeRiddlesModel", "sizeLying", "(I)I"⟩, 21), (⟨"ThreeRiddlesModel", "markByKind", "(I)I"⟩, 21), (⟨"ThreeRiddlesModel", "markPlain", "(I)I"⟩, 21), (⟨"ThreeRiddlesModel", "markOf", "(I)I"⟩, 21)]
theorem lw_r4 : ∀ q ∈ lw_privs_4, lw_okq q := List.forall_mem_cons.mpr ⟨lw_p48, List.forall_mem_cons.mpr ⟨lw_p49, List.forall_mem_cons.mpr ⟨lw_p50, List.forall_mem_cons.mpr ⟨lw_p51, List.forall_mem_cons.mpr ⟨lw_p52, List.forall_mem_cons.mpr ⟨lw_p53, List.forall_mem_cons.mpr ⟨lw_p54, List.forall_mem_cons.mpr ⟨lw_p55, List.forall_mem_cons.mpr ⟨lw_p56, fun _ h => absurd h List.not_mem_nil⟩⟩⟩⟩⟩⟩⟩⟩⟩
def lw_privs : List (MethodName × Nat) := lw_privs_1 ++ (lw_privs_2 ++ (lw_privs_3 ++ (lw_privs_4)))
def lw_tbl : List Cond := k2_sels lw_privs ++ tables_1
theorem lw_privs_ok : ∀ q ∈ lw_privs, lw_okq q := by
  show ∀ q ∈ lw_privs_1 ++ (lw_privs_2 ++ (lw_privs_3 ++ (lw_privs_4))), lw_okq q
  exact List.forall_mem_append.mpr ⟨lw_r1, List.forall_mem_append.mpr ⟨lw_r2, List.forall_mem_append.mpr ⟨lw_r3, lw_r4⟩⟩⟩
end
section
theorem goodIn_r {big : List Cond} (ws : List Cond) (ps : List Nat) (hp : ws = ps.filterMap (fun i => big[i]?)) (h : ws.all goodWord = true) : GoodIn big ws := by
  intro w hw
  have h1 := List.all_eq_true.mp h w hw
  rw [hp] at hw
  obtain ⟨i, -, hi⟩ := List.mem_filterMap.mp hw
  have hm : w ∈ big := by first | exact List.mem_of_getElem? hi | exact List.getElem?_mem hi
  exact ⟨hm, good_of_word h1⟩
def RX0 : String := "ThreeRiddles$Acts"
def TX0 : u_T := fun k => match k with
  | 0 => ("ThreeRiddles$Acts", "suitor", "[I", true)
  | 1 => ("ThreeRiddles$Acts", "knows", "[I", true)
  | 2 => ("ThreeRiddles$Acts", "right", "[I", true)
  | 3 => ("ThreeRiddles$Acts", "turned", "[I", true)
  | 4 => ("ThreeRiddles$Acts", "used", "[I", true)
  | 5 => ("ThreeRiddles$Acts", "paid", "[I", true)
  | 6 => ("ThreeRiddles$Acts", "next", "I", false)
  | _ => ("ThreeRiddles$Acts", "held", "I", false)
def tyX0 : Nat → FieldType := fun k => match k with
  | 0 => .array .int
  | 1 => .array .int
  | 2 => .array .int
  | 3 => .array .int
  | 4 => .array .int
  | 5 => .array .int
  | 6 => .int
  | _ => .int
theorem nmX0 : ∀ a, a < 8 → ∀ b, b < 8 → a ≠ b → (TX0 a).2.1 ≠ (TX0 b).2.1 := by decide +kernel
theorem tyX0_ok : ∀ k, k < 8 → parseFieldDescriptor (TX0 k).2.2.1 = some (tyX0 k) := by decide +kernel
abbrev cX0_init : ByteArray := prog_2_method_1_code
def yX0_init : MethodName := ⟨RX0, "<init>", "()V"⟩
abbrev cX0_forget : ByteArray := prog_2_method_2_code
def yX0_forget : MethodName := ⟨RX0, "forget", "()V"⟩
abbrev cX0_keep : ByteArray := prog_2_method_3_code
def yX0_keep : MethodName := ⟨RX0, "keep", "(LThreeRiddles$Court;I)V"⟩
abbrev cX0_takeBack : ByteArray := prog_2_method_4_code
def yX0_takeBack : MethodName := ⟨RX0, "takeBack", "(LThreeRiddles$Court;)V"⟩
def RX1 : String := "ThreeRiddles$Asks"
def TX1 : u_T := fun k => match k with
  | 0 => ("ThreeRiddles$Asks", "bodies", "[I", true)
  | _ => ("ThreeRiddles$Asks", "length", "I", false)
def tyX1 : Nat → FieldType := fun k => match k with
  | 0 => .array .int
  | _ => .int
theorem nmX1 : ∀ a, a < 2 → ∀ b, b < 2 → a ≠ b → (TX1 a).2.1 ≠ (TX1 b).2.1 := by decide +kernel
theorem tyX1_ok : ∀ k, k < 2 → parseFieldDescriptor (TX1 k).2.2.1 = some (tyX1 k) := by decide +kernel
abbrev cX1_init : ByteArray := prog_3_method_1_code
def yX1_init : MethodName := ⟨RX1, "<init>", "()V"⟩
abbrev cX1_left : ByteArray := prog_3_method_2_code
def yX1_left : MethodName := ⟨RX1, "left", "(I)I"⟩
abbrev cX1_begin : ByteArray := prog_3_method_3_code
def yX1_begin : MethodName := ⟨RX1, "begin", "(LThreeRiddles$Court;II)I"⟩
abbrev cX1_sizeOfAll : ByteArray := prog_3_method_4_code
def yX1_sizeOfAll : MethodName := ⟨RX1, "sizeOfAll", "(LThreeRiddles$Court;I)I"⟩
abbrev cX1_sizeOfPlain : ByteArray := prog_3_method_5_code
def yX1_sizeOfPlain : MethodName := ⟨RX1, "sizeOfPlain", "(LThreeRiddles$Court;I)I"⟩
abbrev cX1_sizeOfLying : ByteArray := prog_3_method_6_code
def yX1_sizeOfLying : MethodName := ⟨RX1, "sizeOfLying", "(LThreeRiddles$Court;I)I"⟩
abbrev cX1_markOfAll : ByteArray := prog_3_method_7_code
def yX1_markOfAll : MethodName := ⟨RX1, "markOfAll", "(I)I"⟩
abbrev cX1_markOfPlain : ByteArray := prog_3_method_8_code
def yX1_markOfPlain : MethodName := ⟨RX1, "markOfPlain", "(LThreeRiddles$Court;I)I"⟩
abbrev cX1_markOfLying : ByteArray := prog_3_method_9_code
def yX1_markOfLying : MethodName := ⟨RX1, "markOfLying", "(LThreeRiddles$Court;I)I"⟩
abbrev cX1_leave : ByteArray := prog_3_method_10_code
def yX1_leave : MethodName := ⟨RX1, "leave", "(I)V"⟩
def RX2 : String := "ThreeRiddles$Court"
def TX2 : u_T := fun k => match k with
  | 0 => ("ThreeRiddles$Court", "stands", "Z", false)
  | 1 => ("ThreeRiddles$Court", "she", "I", false)
  | 2 => ("ThreeRiddles$Court", "price", "I", false)
  | 3 => ("ThreeRiddles$Court", "things", "I", false)
  | 4 => ("ThreeRiddles$Court", "traits", "[I", true)
  | 5 => ("ThreeRiddles$Court", "riddles", "I", false)
  | 6 => ("ThreeRiddles$Court", "sort", "[I", true)
  | 7 => ("ThreeRiddles$Court", "yes", "[I", true)
  | 8 => ("ThreeRiddles$Court", "no", "[I", true)
  | 9 => ("ThreeRiddles$Court", "fitting", "[I", true)
  | 10 => ("ThreeRiddles$Court", "suitors", "I", false)
  | 11 => ("ThreeRiddles$Court", "knows", "[I", true)
  | 12 => ("ThreeRiddles$Court", "fate", "[I", true)
  | 13 => ("ThreeRiddles$Court", "right", "[I", true)
  | 14 => ("ThreeRiddles$Court", "turned", "[I", true)
  | 15 => ("ThreeRiddles$Court", "used", "I", false)
  | _ => ("ThreeRiddles$Court", "paid", "I", false)
def tyX2 : Nat → FieldType := fun k => match k with
  | 0 => .boolean
  | 1 => .int
  | 2 => .int
  | 3 => .int
  | 4 => .array .int
  | 5 => .int
  | 6 => .array .int
  | 7 => .array .int
  | 8 => .array .int
  | 9 => .array .int
  | 10 => .int
  | 11 => .array .int
  | 12 => .array .int
  | 13 => .array .int
  | 14 => .array .int
  | 15 => .int
  | _ => .int
theorem nmX2 : ∀ a, a < 17 → ∀ b, b < 17 → a ≠ b → (TX2 a).2.1 ≠ (TX2 b).2.1 := by decide +kernel
theorem tyX2_ok : ∀ k, k < 17 → parseFieldDescriptor (TX2 k).2.2.1 = some (tyX2 k) := by decide +kernel
abbrev cX2_init : ByteArray := prog_4_method_1_code
def yX2_init : MethodName := ⟨RX2, "<init>", "()V"⟩
abbrev cX2_sortOf : ByteArray := prog_4_method_2_code
def yX2_sortOf : MethodName := ⟨RX2, "sortOf", "(I)I"⟩
abbrev cX2_isSort : ByteArray := prog_4_method_3_code
def yX2_isSort : MethodName := ⟨RX2, "isSort", "(I)Z"⟩
abbrev cX2_isOfKind : ByteArray := prog_4_method_4_code
def yX2_isOfKind : MethodName := ⟨RX2, "isOfKind", "(II)Z"⟩
abbrev cX2_fits : ByteArray := prog_4_method_5_code
def yX2_fits : MethodName := ⟨RX2, "fits", "(IIII)Z"⟩
abbrev cX2_least : ByteArray := prog_4_method_6_code
def yX2_least : MethodName := ⟨RX2, "least", "(I)I"⟩
abbrev cX2_clear : ByteArray := prog_4_method_7_code
def yX2_clear : MethodName := ⟨RX2, "clear", "()V"⟩
abbrev cX2_become : ByteArray := prog_4_method_8_code
def yX2_become : MethodName := ⟨RX2, "become", "(LThreeRiddles$Court;)V"⟩
abbrev cX2_allThings : ByteArray := prog_4_method_9_code
def yX2_allThings : MethodName := ⟨RX2, "allThings", "()I"⟩
abbrev cX2_thingsFitting : ByteArray := prog_4_method_10_code
def yX2_thingsFitting : MethodName := ⟨RX2, "thingsFitting", "(III)I"⟩
abbrev cX2_answer : ByteArray := prog_4_method_11_code
def yX2_answer : MethodName := ⟨RX2, "answer", "(I)I"⟩
abbrev cX2_heSays : ByteArray := prog_4_method_12_code
def yX2_heSays : MethodName := ⟨RX2, "heSays", "(II)I"⟩
abbrev cX2_sheSays : ByteArray := prog_4_method_13_code
def yX2_sheSays : MethodName := ⟨RX2, "sheSays", "(I)I"⟩
abbrev cX2_isKnown : ByteArray := prog_4_method_14_code
def yX2_isKnown : MethodName := ⟨RX2, "isKnown", "(II)Z"⟩
abbrev cX2_wasUsed : ByteArray := prog_4_method_15_code
def yX2_wasUsed : MethodName := ⟨RX2, "wasUsed", "(I)Z"⟩
abbrev cX2_comes : ByteArray := prog_4_method_16_code
def yX2_comes : MethodName := ⟨RX2, "comes", "(I)Z"⟩
abbrev cX2_isOneWed : ByteArray := prog_4_method_17_code
def yX2_isOneWed : MethodName := ⟨RX2, "isOneWed", "()Z"⟩
abbrev cX2_countOfFate : ByteArray := prog_4_method_18_code
def yX2_countOfFate : MethodName := ⟨RX2, "countOfFate", "(I)I"⟩
abbrev cX2_answerHer : ByteArray := prog_4_method_19_code
def yX2_answerHer : MethodName := ⟨RX2, "answerHer", "(II)I"⟩
abbrev cX2_askHer : ByteArray := prog_4_method_20_code
def yX2_askHer : MethodName := ⟨RX2, "askHer", "(II)I"⟩
abbrev cX2_sell : ByteArray := prog_4_method_21_code
def yX2_sell : MethodName := ⟨RX2, "sell", "(II)I"⟩
abbrev cX2_cost : ByteArray := prog_4_method_22_code
def yX2_cost : MethodName := ⟨RX2, "cost", "(I)I"⟩
abbrev cX2_costOfAll : ByteArray := prog_4_method_23_code
def yX2_costOfAll : MethodName := ⟨RX2, "costOfAll", "(I)I"⟩
def RX3 : String := "ThreeRiddles$Foretold"
def TX3 : u_T := fun k => match k with
  | 0 => ("ThreeRiddles$Foretold", "questions", "[I", true)
  | _ => ("ThreeRiddles$Foretold", "having", "[I", true)
def tyX3 : Nat → FieldType := fun k => match k with
  | 0 => .array .int
  | _ => .array .int
theorem nmX3 : ∀ a, a < 2 → ∀ b, b < 2 → a ≠ b → (TX3 a).2.1 ≠ (TX3 b).2.1 := by decide +kernel
theorem tyX3_ok : ∀ k, k < 2 → parseFieldDescriptor (TX3 k).2.2.1 = some (tyX3 k) := by decide +kernel
abbrev cX3_init : ByteArray := prog_5_method_1_code
def yX3_init : MethodName := ⟨RX3, "<init>", "()V"⟩
abbrev cX3_riddleAgainst : ByteArray := prog_5_method_2_code
def yX3_riddleAgainst : MethodName := ⟨RX3, "riddleAgainst", "(LThreeRiddles$Court;III)I"⟩
abbrev cX3_hardest : ByteArray := prog_5_method_3_code
def yX3_hardest : MethodName := ⟨RX3, "hardest", "(LThreeRiddles$Court;II)I"⟩
abbrev cX3_onlyThing : ByteArray := prog_5_method_4_code
def yX3_onlyThing : MethodName := ⟨RX3, "onlyThing", "(LThreeRiddles$Court;II)I"⟩
abbrev cX3_comingWithout : ByteArray := prog_5_method_5_code
def yX3_comingWithout : MethodName := ⟨RX3, "comingWithout", "(LThreeRiddles$Court;I)I"⟩
abbrev cX3_likelihood : ByteArray := prog_5_method_6_code
def yX3_likelihood : MethodName := ⟨RX3, "likelihood", "(LThreeRiddles$Court;II)I"⟩
abbrev cX3_rowsOfUnlike : ByteArray := prog_5_method_7_code
def yX3_rowsOfUnlike : MethodName := ⟨RX3, "rowsOfUnlike", "(II)I"⟩
abbrev cX3_wanted : ByteArray := prog_5_method_8_code
def yX3_wanted : MethodName := ⟨RX3, "wanted", "(LThreeRiddles$Court;I)I"⟩
abbrev cX3_beating : ByteArray := prog_5_method_9_code
def yX3_beating : MethodName := ⟨RX3, "beating", "(LThreeRiddles$Court;)I"⟩
abbrev cX3_fewestQuestions : ByteArray := prog_5_method_10_code
def yX3_fewestQuestions : MethodName := ⟨RX3, "fewestQuestions", "(LThreeRiddles$Court;II)I"⟩
abbrev cX3_areTwoAlike : ByteArray := prog_5_method_11_code
def yX3_areTwoAlike : MethodName := ⟨RX3, "areTwoAlike", "(LThreeRiddles$Court;I)Z"⟩
abbrev cX3_gatherByTraits : ByteArray := prog_5_method_12_code
def yX3_gatherByTraits : MethodName := ⟨RX3, "gatherByTraits", "(LThreeRiddles$Court;)V"⟩
abbrev cX3_fewestOfAll : ByteArray := prog_5_method_13_code
def yX3_fewestOfAll : MethodName := ⟨RX3, "fewestOfAll", "(I)I"⟩
abbrev cX3_firstTrait : ByteArray := prog_5_method_14_code
def yX3_firstTrait : MethodName := ⟨RX3, "firstTrait", "(I)I"⟩
abbrev cX3_splits : ByteArray := prog_5_method_15_code
def yX3_splits : MethodName := ⟨RX3, "splits", "(II)Z"⟩
abbrev cX3_questionsBy : ByteArray := prog_5_method_16_code
def yX3_questionsBy : MethodName := ⟨RX3, "questionsBy", "(II)I"⟩
abbrev cX3_riddlesHeard : ByteArray := prog_5_method_17_code
def yX3_riddlesHeard : MethodName := ⟨RX3, "riddlesHeard", "(LThreeRiddles$Court;I[III)I"⟩
abbrev cX3_riddlesSaid : ByteArray := prog_5_method_18_code
def yX3_riddlesSaid : MethodName := ⟨RX3, "riddlesSaid", "(LThreeRiddles$Court;II)I"⟩
abbrev cX3_timesBefore : ByteArray := prog_5_method_19_code
def yX3_timesBefore : MethodName := ⟨RX3, "timesBefore", "([II)I"⟩
def RX4 : String := "ThreeRiddles$Rows"
def TX4 : u_T := fun k => match k with
  | 0 => ("ThreeRiddles$Rows", "width", "[I", true)
  | 1 => ("ThreeRiddles$Rows", "size", "[I", true)
  | _ => ("ThreeRiddles$Rows", "items", "[I", true)
def tyX4 : Nat → FieldType := fun k => match k with
  | 0 => .array .int
  | 1 => .array .int
  | _ => .array .int
theorem nmX4 : ∀ a, a < 3 → ∀ b, b < 3 → a ≠ b → (TX4 a).2.1 ≠ (TX4 b).2.1 := by decide +kernel
theorem tyX4_ok : ∀ k, k < 3 → parseFieldDescriptor (TX4 k).2.2.1 = some (tyX4 k) := by decide +kernel
abbrev cX4_init : ByteArray := prog_6_method_1_code
def yX4_init : MethodName := ⟨RX4, "<init>", "()V"⟩
abbrev cX4_isMissing : ByteArray := prog_6_method_2_code
def yX4_isMissing : MethodName := ⟨RX4, "isMissing", "(I)Z"⟩
abbrev cX4_areAlike : ByteArray := prog_6_method_3_code
def yX4_areAlike : MethodName := ⟨RX4, "areAlike", "(II)Z"⟩
abbrev cX4_hasPlaces : ByteArray := prog_6_method_4_code
def yX4_hasPlaces : MethodName := ⟨RX4, "hasPlaces", "(III)Z"⟩
abbrev cX4_lay : ByteArray := prog_6_method_5_code
def yX4_lay : MethodName := ⟨RX4, "lay", "(III)V"⟩
abbrev cX4_put : ByteArray := prog_6_method_6_code
def yX4_put : MethodName := ⟨RX4, "put", "(III)I"⟩
abbrev cX4_at : ByteArray := prog_6_method_7_code
def yX4_at : MethodName := ⟨RX4, "at", "(II)I"⟩
abbrev cX4_move : ByteArray := prog_6_method_8_code
def yX4_move : MethodName := ⟨RX4, "move", "(IIIII)V"⟩
abbrev cX4_lose : ByteArray := prog_6_method_9_code
def yX4_lose : MethodName := ⟨RX4, "lose", "(I)I"⟩
abbrev cX4_present : ByteArray := prog_6_method_10_code
def yX4_present : MethodName := ⟨RX4, "present", "()I"⟩
def RX5 : String := "ThreeRiddles$Tape"
def TX5 : u_T := fun k => match k with
  | 0 => ("ThreeRiddles$Tape", "bytes", "[I", true)
  | 1 => ("ThreeRiddles$Tape", "length", "I", false)
  | 2 => ("ThreeRiddles$Tape", "place", "I", false)
  | 3 => ("ThreeRiddles$Tape", "fault", "I", false)
  | _ => ("ThreeRiddles$Tape", "number", "I", false)
def tyX5 : Nat → FieldType := fun k => match k with
  | 0 => .array .int
  | 1 => .int
  | 2 => .int
  | 3 => .int
  | _ => .int
theorem nmX5 : ∀ a, a < 5 → ∀ b, b < 5 → a ≠ b → (TX5 a).2.1 ≠ (TX5 b).2.1 := by decide +kernel
theorem tyX5_ok : ∀ k, k < 5 → parseFieldDescriptor (TX5 k).2.2.1 = some (tyX5 k) := by decide +kernel
abbrev cX5_init : ByteArray := prog_7_method_1_code
def yX5_init : MethodName := ⟨RX5, "<init>", "()V"⟩
abbrev cX5_add : ByteArray := prog_7_method_2_code
def yX5_add : MethodName := ⟨RX5, "add", "(I)I"⟩
abbrev cX5_clear : ByteArray := prog_7_method_3_code
def yX5_clear : MethodName := ⟨RX5, "clear", "()V"⟩
abbrev cX5_tells : ByteArray := prog_7_method_4_code
def yX5_tells : MethodName := ⟨RX5, "tells", "(LThreeRiddles$Court;)Z"⟩
abbrev cX5_tellsLaw : ByteArray := prog_7_method_5_code
def yX5_tellsLaw : MethodName := ⟨RX5, "tellsLaw", "(LThreeRiddles$Court;)Z"⟩
abbrev cX5_tellsThings : ByteArray := prog_7_method_6_code
def yX5_tellsThings : MethodName := ⟨RX5, "tellsThings", "(LThreeRiddles$Court;)Z"⟩
abbrev cX5_tellsRiddles : ByteArray := prog_7_method_7_code
def yX5_tellsRiddles : MethodName := ⟨RX5, "tellsRiddles", "(LThreeRiddles$Court;)Z"⟩
abbrev cX5_tellsRiddle : ByteArray := prog_7_method_8_code
def yX5_tellsRiddle : MethodName := ⟨RX5, "tellsRiddle", "(LThreeRiddles$Court;I)Z"⟩
abbrev cX5_tellsSuitors : ByteArray := prog_7_method_9_code
def yX5_tellsSuitors : MethodName := ⟨RX5, "tellsSuitors", "(LThreeRiddles$Court;)Z"⟩
abbrev cX5_next : ByteArray := prog_7_method_10_code
def yX5_next : MethodName := ⟨RX5, "next", "()I"⟩
abbrev cX5_takes : ByteArray := prog_7_method_11_code
def yX5_takes : MethodName := ⟨RX5, "takes", "(I)Z"⟩
abbrev cX5_takesNumber : ByteArray := prog_7_method_12_code
def yX5_takesNumber : MethodName := ⟨RX5, "takesNumber", "(II)Z"⟩
abbrev cX5_faulty : ByteArray := prog_7_method_13_code
def yX5_faulty : MethodName := ⟨RX5, "faulty", "(I)Z"⟩
def RX6 : String := "ThreeRiddles"
def TX6 : u_T := fun k => match k with
  | 0 => ("ThreeRiddles", "rows", "LThreeRiddles$Rows;", true)
  | 1 => ("ThreeRiddles", "tape", "LThreeRiddles$Tape;", true)
  | 2 => ("ThreeRiddles", "now", "LThreeRiddles$Court;", true)
  | 3 => ("ThreeRiddles", "draft", "LThreeRiddles$Court;", true)
  | 4 => ("ThreeRiddles", "images", "[LThreeRiddles$Court;", true)
  | 5 => ("ThreeRiddles", "acts", "LThreeRiddles$Acts;", true)
  | 6 => ("ThreeRiddles", "foretold", "LThreeRiddles$Foretold;", true)
  | 7 => ("ThreeRiddles", "asks", "LThreeRiddles$Asks;", true)
  | 8 => ("ThreeRiddles", "heard", "[I", true)
  | 9 => ("ThreeRiddles", "latestFault", "I", false)
  | _ => ("ThreeRiddles", "latestFinding", "I", false)
def tyX6 : Nat → FieldType := fun k => match k with
  | 0 => .object "ThreeRiddles$Rows"
  | 1 => .object "ThreeRiddles$Tape"
  | 2 => .object "ThreeRiddles$Court"
  | 3 => .object "ThreeRiddles$Court"
  | 4 => .array (.object "ThreeRiddles$Court")
  | 5 => .object "ThreeRiddles$Acts"
  | 6 => .object "ThreeRiddles$Foretold"
  | 7 => .object "ThreeRiddles$Asks"
  | 8 => .array .int
  | 9 => .int
  | _ => .int
theorem nmX6 : ∀ a, a < 11 → ∀ b, b < 11 → a ≠ b → (TX6 a).2.1 ≠ (TX6 b).2.1 := by decide +kernel
theorem tyX6_ok : ∀ k, k < 11 → parseFieldDescriptor (TX6 k).2.2.1 = some (tyX6 k) := by decide +kernel
abbrev cX6_init : ByteArray := prog_1_method_1_code
def yX6_init : MethodName := ⟨RX6, "<init>", "()V"⟩
abbrev cX6_row : ByteArray := prog_1_method_2_code
def yX6_row : MethodName := ⟨RX6, "row", "(III)I"⟩
abbrev cX6_set : ByteArray := prog_1_method_3_code
def yX6_set : MethodName := ⟨RX6, "set", "(III)I"⟩
abbrev cX6_copy : ByteArray := prog_1_method_4_code
def yX6_copy : MethodName := ⟨RX6, "copy", "(IIIII)I"⟩
abbrev cX6_drop : ByteArray := prog_1_method_5_code
def yX6_drop : MethodName := ⟨RX6, "drop", "(I)I"⟩
abbrev cX6_feed : ByteArray := prog_1_method_6_code
def yX6_feed : MethodName := ⟨RX6, "feed", "(I)I"⟩
abbrev cX6_court : ByteArray := prog_1_method_7_code
def yX6_court : MethodName := ⟨RX6, "court", "()I"⟩
abbrev cX6_fault : ByteArray := prog_1_method_8_code
def yX6_fault : MethodName := ⟨RX6, "fault", "()I"⟩
abbrev cX6_asked : ByteArray := prog_1_method_9_code
def yX6_asked : MethodName := ⟨RX6, "asked", "(II)I"⟩
abbrev cX6_inTurn : ByteArray := prog_1_method_10_code
def yX6_inTurn : MethodName := ⟨RX6, "inTurn", "(II)I"⟩
abbrev cX6_buy : ByteArray := prog_1_method_11_code
def yX6_buy : MethodName := ⟨RX6, "buy", "(II)I"⟩
abbrev cX6_undo : ByteArray := prog_1_method_12_code
def yX6_undo : MethodName := ⟨RX6, "undo", "()I"⟩
abbrev cX6_thing : ByteArray := prog_1_method_13_code
def yX6_thing : MethodName := ⟨RX6, "thing", "(I)I"⟩
abbrev cX6_riddle : ByteArray := prog_1_method_14_code
def yX6_riddle : MethodName := ⟨RX6, "riddle", "(II)I"⟩
abbrev cX6_suitor : ByteArray := prog_1_method_15_code
def yX6_suitor : MethodName := ⟨RX6, "suitor", "(II)I"⟩
abbrev cX6_says : ByteArray := prog_1_method_16_code
def yX6_says : MethodName := ⟨RX6, "says", "(II)I"⟩
abbrev cX6_riddleFor : ByteArray := prog_1_method_17_code
def yX6_riddleFor : MethodName := ⟨RX6, "riddleFor", "(III)I"⟩
abbrev cX6_hard : ByteArray := prog_1_method_18_code
def yX6_hard : MethodName := ⟨RX6, "hard", "(II)I"⟩
abbrev cX6_chance : ByteArray := prog_1_method_19_code
def yX6_chance : MethodName := ⟨RX6, "chance", "(II)I"⟩
abbrev cX6_toBuy : ByteArray := prog_1_method_20_code
def yX6_toBuy : MethodName := ⟨RX6, "toBuy", "(II)I"⟩
abbrev cX6_beats : ByteArray := prog_1_method_21_code
def yX6_beats : MethodName := ⟨RX6, "beats", "()I"⟩
abbrev cX6_tree : ByteArray := prog_1_method_22_code
def yX6_tree : MethodName := ⟨RX6, "tree", "(II)I"⟩
abbrev cX6_said : ByteArray := prog_1_method_23_code
def yX6_said : MethodName := ⟨RX6, "said", "(IIIII)I"⟩
abbrev cX6_image : ByteArray := prog_1_method_24_code
def yX6_image : MethodName := ⟨RX6, "image", "(I)I"⟩
abbrev cX6_restore : ByteArray := prog_1_method_25_code
def yX6_restore : MethodName := ⟨RX6, "restore", "(I)I"⟩
abbrev cX6_kind : ByteArray := prog_1_method_26_code
def yX6_kind : MethodName := ⟨RX6, "kind", "(I)I"⟩
abbrev cX6_as : ByteArray := prog_1_method_27_code
def yX6_as : MethodName := ⟨RX6, "as", "(II)I"⟩
abbrev cX6_ask : ByteArray := prog_1_method_28_code
def yX6_ask : MethodName := ⟨RX6, "ask", "(II)I"⟩
abbrev cX6_trace : ByteArray := prog_1_method_29_code
def yX6_trace : MethodName := ⟨RX6, "trace", "(I)I"⟩
abbrev cX6_count : ByteArray := prog_1_method_30_code
def yX6_count : MethodName := ⟨RX6, "count", "(I)I"⟩
abbrev cX6_status : ByteArray := prog_1_method_31_code
def yX6_status : MethodName := ⟨RX6, "status", "()I"⟩
abbrev cX6_below : ByteArray := prog_1_method_32_code
def yX6_below : MethodName := ⟨RX6, "below", "(II)Z"⟩
abbrev cX6_found : ByteArray := prog_1_method_33_code
def yX6_found : MethodName := ⟨RX6, "found", "(I)I"⟩
abbrev cX6_clean : ByteArray := prog_1_method_34_code
def yX6_clean : MethodName := ⟨RX6, "clean", "(I)I"⟩
def RX7 : String := "ThreeRiddlesModel"
def TX7 : u_T := fun k => match k with
  | 0 => ("ThreeRiddlesModel", "lane", "[I", true)
  | 1 => ("ThreeRiddlesModel", "size", "[I", true)
  | 2 => ("ThreeRiddlesModel", "items", "[I", true)
  | 3 => ("ThreeRiddlesModel", "status", "I", false)
  | 4 => ("ThreeRiddlesModel", "letters", "I", false)
  | 5 => ("ThreeRiddlesModel", "tape", "[I", true)
  | 6 => ("ThreeRiddlesModel", "position", "I", false)
  | 7 => ("ThreeRiddlesModel", "tokenAt", "I", false)
  | 8 => ("ThreeRiddlesModel", "token", "I", false)
  | 9 => ("ThreeRiddlesModel", "number", "I", false)
  | 10 => ("ThreeRiddlesModel", "faultIs", "I", false)
  | 11 => ("ThreeRiddlesModel", "faultNow", "I", false)
  | 12 => ("ThreeRiddlesModel", "now", "[I", true)
  | 13 => ("ThreeRiddlesModel", "read", "[I", true)
  | 14 => ("ThreeRiddlesModel", "image", "[I", true)
  | 15 => ("ThreeRiddlesModel", "isKept", "[Z", true)
  | 16 => ("ThreeRiddlesModel", "actOf", "[I", true)
  | 17 => ("ThreeRiddlesModel", "acts", "I", false)
  | 18 => ("ThreeRiddlesModel", "trace", "[I", true)
  | 19 => ("ThreeRiddlesModel", "traceMany", "I", false)
  | _ => ("ThreeRiddlesModel", "deep", "[I", true)
def tyX7 : Nat → FieldType := fun k => match k with
  | 0 => .array .int
  | 1 => .array .int
  | 2 => .array .int
  | 3 => .int
  | 4 => .int
  | 5 => .array .int
  | 6 => .int
  | 7 => .int
  | 8 => .int
  | 9 => .int
  | 10 => .int
  | 11 => .int
  | 12 => .array .int
  | 13 => .array .int
  | 14 => .array .int
  | 15 => .array .boolean
  | 16 => .array .int
  | 17 => .int
  | 18 => .array .int
  | 19 => .int
  | _ => .array .int
theorem nmX7 : ∀ a, a < 21 → ∀ b, b < 21 → a ≠ b → (TX7 a).2.1 ≠ (TX7 b).2.1 := by decide +kernel
theorem tyX7_ok : ∀ k, k < 21 → parseFieldDescriptor (TX7 k).2.2.1 = some (tyX7 k) := by decide +kernel
abbrev cX7_init : ByteArray := prog_9_method_1_code
def yX7_init : MethodName := ⟨RX7, "<init>", "()V"⟩
abbrev cX7_in : ByteArray := prog_9_method_2_code
def yX7_in : MethodName := ⟨RX7, "in", "(III)Z"⟩
abbrev cX7_has : ByteArray := prog_9_method_3_code
def yX7_has : MethodName := ⟨RX7, "has", "(II)Z"⟩
abbrev cX7_bits : ByteArray := prog_9_method_4_code
def yX7_bits : MethodName := ⟨RX7, "bits", "(I)I"⟩
abbrev cX7_finds : ByteArray := prog_9_method_5_code
def yX7_finds : MethodName := ⟨RX7, "finds", "(I)I"⟩
abbrev cX7_done : ByteArray := prog_9_method_6_code
def yX7_done : MethodName := ⟨RX7, "done", "(I)I"⟩
abbrev cX7_isRow : ByteArray := prog_9_method_7_code
def yX7_isRow : MethodName := ⟨RX7, "isRow", "(I)Z"⟩
abbrev cX7_row : ByteArray := prog_9_method_8_code
def yX7_row : MethodName := ⟨RX7, "row", "(III)I"⟩
abbrev cX7_set : ByteArray := prog_9_method_9_code
def yX7_set : MethodName := ⟨RX7, "set", "(III)I"⟩
abbrev cX7_isPart : ByteArray := prog_9_method_10_code
def yX7_isPart : MethodName := ⟨RX7, "isPart", "(III)Z"⟩
abbrev cX7_copy : ByteArray := prog_9_method_11_code
def yX7_copy : MethodName := ⟨RX7, "copy", "(IIIII)I"⟩
abbrev cX7_drop : ByteArray := prog_9_method_12_code
def yX7_drop : MethodName := ⟨RX7, "drop", "(I)I"⟩
abbrev cX7_feed : ByteArray := prog_9_method_13_code
def yX7_feed : MethodName := ⟨RX7, "feed", "(I)I"⟩
abbrev cX7_nextToken : ByteArray := prog_9_method_14_code
def yX7_nextToken : MethodName := ⟨RX7, "nextToken", "()V"⟩
abbrev cX7_fails : ByteArray := prog_9_method_15_code
def yX7_fails : MethodName := ⟨RX7, "fails", "(I)Z"⟩
abbrev cX7_isNumber : ByteArray := prog_9_method_16_code
def yX7_isNumber : MethodName := ⟨RX7, "isNumber", "(I)Z"⟩
abbrev cX7_isSign : ByteArray := prog_9_method_17_code
def yX7_isSign : MethodName := ⟨RX7, "isSign", "(I)Z"⟩
abbrev cX7_sortOf : ByteArray := prog_9_method_18_code
def yX7_sortOf : MethodName := ⟨RX7, "sortOf", "(I)I"⟩
abbrev cX7_isLaw : ByteArray := prog_9_method_19_code
def yX7_isLaw : MethodName := ⟨RX7, "isLaw", "()Z"⟩
abbrev cX7_isThing : ByteArray := prog_9_method_20_code
def yX7_isThing : MethodName := ⟨RX7, "isThing", "()Z"⟩
abbrev cX7_isRiddle : ByteArray := prog_9_method_21_code
def yX7_isRiddle : MethodName := ⟨RX7, "isRiddle", "()Z"⟩
abbrev cX7_isSuitor : ByteArray := prog_9_method_22_code
def yX7_isSuitor : MethodName := ⟨RX7, "isSuitor", "()Z"⟩
abbrev cX7_isRead : ByteArray := prog_9_method_23_code
def yX7_isRead : MethodName := ⟨RX7, "isRead", "()Z"⟩
abbrev cX7_court : ByteArray := prog_9_method_24_code
def yX7_court : MethodName := ⟨RX7, "court", "()I"⟩
abbrev cX7_fault : ByteArray := prog_9_method_25_code
def yX7_fault : MethodName := ⟨RX7, "fault", "()I"⟩
abbrev cX7_lay : ByteArray := prog_9_method_26_code
def yX7_lay : MethodName := ⟨RX7, "lay", "([II[II)V"⟩
abbrev cX7_isCourt : ByteArray := prog_9_method_27_code
def yX7_isCourt : MethodName := ⟨RX7, "isCourt", "()Z"⟩
abbrev cX7_everything : ByteArray := prog_9_method_28_code
def yX7_everything : MethodName := ⟨RX7, "everything", "()I"⟩
abbrev cX7_isThingAt : ByteArray := prog_9_method_29_code
def yX7_isThingAt : MethodName := ⟨RX7, "isThingAt", "(I)Z"⟩
abbrev cX7_isRiddleAt : ByteArray := prog_9_method_30_code
def yX7_isRiddleAt : MethodName := ⟨RX7, "isRiddleAt", "(I)Z"⟩
abbrev cX7_isSuitorAt : ByteArray := prog_9_method_31_code
def yX7_isSuitorAt : MethodName := ⟨RX7, "isSuitorAt", "(I)Z"⟩
abbrev cX7_fits : ByteArray := prog_9_method_32_code
def yX7_fits : MethodName := ⟨RX7, "fits", "(IIII)Z"⟩
abbrev cX7_fittersOf : ByteArray := prog_9_method_33_code
def yX7_fittersOf : MethodName := ⟨RX7, "fittersOf", "(III)I"⟩
abbrev cX7_fittersAt : ByteArray := prog_9_method_34_code
def yX7_fittersAt : MethodName := ⟨RX7, "fittersAt", "(I)I"⟩
abbrev cX7_leastOf : ByteArray := prog_9_method_35_code
def yX7_leastOf : MethodName := ⟨RX7, "leastOf", "(I)I"⟩
abbrev cX7_answerAt : ByteArray := prog_9_method_36_code
def yX7_answerAt : MethodName := ⟨RX7, "answerAt", "(I)I"⟩
abbrev cX7_saysAt : ByteArray := prog_9_method_37_code
def yX7_saysAt : MethodName := ⟨RX7, "saysAt", "(II)I"⟩
abbrev cX7_sheSaysAt : ByteArray := prog_9_method_38_code
def yX7_sheSaysAt : MethodName := ⟨RX7, "sheSaysAt", "(I)I"⟩
abbrev cX7_isOpen : ByteArray := prog_9_method_39_code
def yX7_isOpen : MethodName := ⟨RX7, "isOpen", "(I)Z"⟩
abbrev cX7_isAnyWed : ByteArray := prog_9_method_40_code
def yX7_isAnyWed : MethodName := ⟨RX7, "isAnyWed", "()Z"⟩
abbrev cX7_act : ByteArray := prog_9_method_41_code
def yX7_act : MethodName := ⟨RX7, "act", "()V"⟩
abbrev cX7_asked : ByteArray := prog_9_method_42_code
def yX7_asked : MethodName := ⟨RX7, "asked", "(II)I"⟩
abbrev cX7_inTurn : ByteArray := prog_9_method_43_code
def yX7_inTurn : MethodName := ⟨RX7, "inTurn", "(II)I"⟩
abbrev cX7_costOf : ByteArray := prog_9_method_44_code
def yX7_costOf : MethodName := ⟨RX7, "costOf", "(I)I"⟩
abbrev cX7_buy : ByteArray := prog_9_method_45_code
def yX7_buy : MethodName := ⟨RX7, "buy", "(II)I"⟩
abbrev cX7_undo : ByteArray := prog_9_method_46_code
def yX7_undo : MethodName := ⟨RX7, "undo", "()I"⟩
abbrev cX7_thing : ByteArray := prog_9_method_47_code
def yX7_thing : MethodName := ⟨RX7, "thing", "(I)I"⟩
abbrev cX7_riddle : ByteArray := prog_9_method_48_code
def yX7_riddle : MethodName := ⟨RX7, "riddle", "(II)I"⟩
abbrev cX7_suitor : ByteArray := prog_9_method_49_code
def yX7_suitor : MethodName := ⟨RX7, "suitor", "(II)I"⟩
abbrev cX7_says : ByteArray := prog_9_method_50_code
def yX7_says : MethodName := ⟨RX7, "says", "(II)I"⟩
abbrev cX7_riddleFor : ByteArray := prog_9_method_51_code
def yX7_riddleFor : MethodName := ⟨RX7, "riddleFor", "(III)I"⟩
abbrev cX7_hard : ByteArray := prog_9_method_52_code
def yX7_hard : MethodName := ⟨RX7, "hard", "(II)I"⟩
abbrev cX7_over : ByteArray := prog_9_method_53_code
def yX7_over : MethodName := ⟨RX7, "over", "(II)I"⟩
abbrev cX7_chance : ByteArray := prog_9_method_54_code
def yX7_chance : MethodName := ⟨RX7, "chance", "(II)I"⟩
abbrev cX7_toBuy : ByteArray := prog_9_method_55_code
def yX7_toBuy : MethodName := ⟨RX7, "toBuy", "(II)I"⟩
abbrev cX7_beats : ByteArray := prog_9_method_56_code
def yX7_beats : MethodName := ⟨RX7, "beats", "()I"⟩
abbrev cX7_havers : ByteArray := prog_9_method_57_code
def yX7_havers : MethodName := ⟨RX7, "havers", "(II)I"⟩
abbrev cX7_deepBy : ByteArray := prog_9_method_58_code
def yX7_deepBy : MethodName := ⟨RX7, "deepBy", "(II)I"⟩
abbrev cX7_tree : ByteArray := prog_9_method_59_code
def yX7_tree : MethodName := ⟨RX7, "tree", "(II)I"⟩
abbrev cX7_said : ByteArray := prog_9_method_60_code
def yX7_said : MethodName := ⟨RX7, "said", "(IIIII)I"⟩
abbrev cX7_image : ByteArray := prog_9_method_61_code
def yX7_image : MethodName := ⟨RX7, "image", "(I)I"⟩
abbrev cX7_restore : ByteArray := prog_9_method_62_code
def yX7_restore : MethodName := ⟨RX7, "restore", "(I)I"⟩
abbrev cX7_kindAt : ByteArray := prog_9_method_63_code
def yX7_kindAt : MethodName := ⟨RX7, "kindAt", "(I)I"⟩
abbrev cX7_kind : ByteArray := prog_9_method_64_code
def yX7_kind : MethodName := ⟨RX7, "kind", "(I)I"⟩
abbrev cX7_parentOf : ByteArray := prog_9_method_65_code
def yX7_parentOf : MethodName := ⟨RX7, "parentOf", "(I)I"⟩
abbrev cX7_as : ByteArray := prog_9_method_66_code
def yX7_as : MethodName := ⟨RX7, "as", "(II)I"⟩
abbrev cX7_begins : ByteArray := prog_9_method_67_code
def yX7_begins : MethodName := ⟨RX7, "begins", "(I)V"⟩
abbrev cX7_markPlain : ByteArray := prog_9_method_68_code
def yX7_markPlain : MethodName := ⟨RX7, "markPlain", "(I)I"⟩
abbrev cX7_markByKind : ByteArray := prog_9_method_69_code
def yX7_markByKind : MethodName := ⟨RX7, "markByKind", "(I)I"⟩
abbrev cX7_sizeLying : ByteArray := prog_9_method_70_code
def yX7_sizeLying : MethodName := ⟨RX7, "sizeLying", "(I)I"⟩
abbrev cX7_sizeOf : ByteArray := prog_9_method_71_code
def yX7_sizeOf : MethodName := ⟨RX7, "sizeOf", "(I)I"⟩
abbrev cX7_markOf : ByteArray := prog_9_method_72_code
def yX7_markOf : MethodName := ⟨RX7, "markOf", "(I)I"⟩
abbrev cX7_ask : ByteArray := prog_9_method_73_code
def yX7_ask : MethodName := ⟨RX7, "ask", "(II)I"⟩
abbrev cX7_trace : ByteArray := prog_9_method_74_code
def yX7_trace : MethodName := ⟨RX7, "trace", "(I)I"⟩
abbrev cX7_count : ByteArray := prog_9_method_75_code
def yX7_count : MethodName := ⟨RX7, "count", "(I)I"⟩
abbrev cX7_status : ByteArray := prog_9_method_76_code
def yX7_status : MethodName := ⟨RX7, "status", "()I"⟩
def RJ6 : String := "java/lang/Integer"
def TJ6 : u_T := fun k => match k with
  | _ => ("", "", "", false)
def tyJ6 : Nat → FieldType := fun k => match k with
  | _ => .int
theorem nmJ6 : ∀ a, a < 0 → ∀ b, b < 0 → a ≠ b → (TJ6 a).2.1 ≠ (TJ6 b).2.1 := by decide +kernel
theorem tyJ6_ok : ∀ k, k < 0 → parseFieldDescriptor (TJ6 k).2.2.1 = some (tyJ6 k) := by decide +kernel
abbrev cJ6_bitCount_0f7a4 : ByteArray := prog_10_method_49_code
def yJ6_bitCount_0f7a4 : MethodName := ⟨RJ6, "bitCount", "(I)I"⟩
def RJ9 : String := "java/lang/Math"
def TJ9 : u_T := fun k => match k with
  | _ => ("", "", "", false)
def tyJ9 : Nat → FieldType := fun k => match k with
  | _ => .int
theorem nmJ9 : ∀ a, a < 0 → ∀ b, b < 0 → a ≠ b → (TJ9 a).2.1 ≠ (TJ9 b).2.1 := by decide +kernel
theorem tyJ9_ok : ∀ k, k < 0 → parseFieldDescriptor (TJ9 k).2.2.1 = some (tyJ9 k) := by decide +kernel
abbrev cJ9_max_7cf53 : ByteArray := prog_11_method_65_code
def yJ9_max_7cf53 : MethodName := ⟨RJ9, "max", "(II)I"⟩
abbrev cJ9_min_7cf53 : ByteArray := prog_11_method_69_code
def yJ9_min_7cf53 : MethodName := ⟨RJ9, "min", "(II)I"⟩
def RJ10 : String := "java/lang/System"
def TJ10 : u_T := fun k => match k with
  | _ => ("", "", "", false)
def tyJ10 : Nat → FieldType := fun k => match k with
  | _ => .int
theorem nmJ10 : ∀ a, a < 0 → ∀ b, b < 0 → a ≠ b → (TJ10 a).2.1 ≠ (TJ10 b).2.1 := by decide +kernel
theorem tyJ10_ok : ∀ k, k < 0 → parseFieldDescriptor (TJ10 k).2.2.1 = some (tyJ10 k) := by decide +kernel
def RJ7 : String := "java/util/Arrays"
def TJ7 : u_T := fun k => match k with
  | _ => ("", "", "", false)
def tyJ7 : Nat → FieldType := fun k => match k with
  | _ => .int
theorem nmJ7 : ∀ a, a < 0 → ∀ b, b < 0 → a ≠ b → (TJ7 a).2.1 ≠ (TJ7 b).2.1 := by decide +kernel
theorem tyJ7_ok : ∀ k, k < 0 → parseFieldDescriptor (TJ7 k).2.2.1 = some (tyJ7 k) := by decide +kernel
abbrev cJ7_rangeCheck_23922 : ByteArray := prog_13_method_30_code
def yJ7_rangeCheck_23922 : MethodName := ⟨RJ7, "rangeCheck", "(III)V"⟩
abbrev cJ7_fill_53178 : ByteArray := prog_13_method_103_code
def yJ7_fill_53178 : MethodName := ⟨RJ7, "fill", "([II)V"⟩
abbrev cJ7_fill_fda19 : ByteArray := prog_13_method_104_code
def yJ7_fill_fda19 : MethodName := ⟨RJ7, "fill", "([IIII)V"⟩
def RL : String := "ThreeRiddlesLaw"
abbrev cL_law : ByteArray := code
def yL_law : MethodName := ⟨RL, "law", "([I)Z"⟩
abbrev vwCl : List vw_C := [(RX0, TX0, 8), (RX1, TX1, 2), (RX2, TX2, 17), (RX3, TX3, 2), (RX4, TX4, 3), (RX5, TX5, 5), (RX6, TX6, 11), (RX7, TX7, 21)]
/-- the tables' words that a call takes along -/
def TW : List Cond := lw_tbl.filter goodWord
theorem tw_of {ws : List Cond} (h : GoodIn lw_tbl ws) (hg : ws.all goodWord = true) : ∀ w ∈ ws, w ∈ TW := fun w hw => List.mem_filter.mpr ⟨(h w hw).1, List.all_eq_true.mp hg w hw⟩
theorem tw {w : Cond} (i : Nat) (h : lw_tbl[i]? = some w) (hg : goodWord w = true) : w ∈ TW := List.mem_filter.mpr ⟨List.mem_of_getElem? h, hg⟩
theorem inX0 : ∀ w ∈ u_ws RX0 TX0 8, w ∈ TW := fun w h => tw_of (goodIn_r _ [236, 238, 240, 242, 244, 246, 248, 250] (by decide +kernel) (by decide +kernel)) (by decide +kernel) w h
theorem inX1 : ∀ w ∈ u_ws RX1 TX1 2, w ∈ TW := fun w h => tw_of (goodIn_r _ [274, 276] (by decide +kernel) (by decide +kernel)) (by decide +kernel) w h
theorem inX2 : ∀ w ∈ u_ws RX2 TX2 17, w ∈ TW := fun w h => tw_of (goodIn_r _ [185, 187, 189, 191, 193, 195, 197, 199, 201, 203, 205, 207, 209, 211, 213, 215, 217] (by decide +kernel) (by decide +kernel)) (by decide +kernel) w h
theorem inX3 : ∀ w ∈ u_ws RX3 TX3 2, w ∈ TW := fun w h => tw_of (goodIn_r _ [261, 263] (by decide +kernel) (by decide +kernel)) (by decide +kernel) w h
theorem inX4 : ∀ w ∈ u_ws RX4 TX4 3, w ∈ TW := fun w h => tw_of (goodIn_r _ [87, 89, 91] (by decide +kernel) (by decide +kernel)) (by decide +kernel) w h
theorem inX5 : ∀ w ∈ u_ws RX5 TX5 5, w ∈ TW := fun w h => tw_of (goodIn_r _ [109, 111, 113, 115, 117] (by decide +kernel) (by decide +kernel)) (by decide +kernel) w h
theorem inX6 : ∀ w ∈ u_ws RX6 TX6 11, w ∈ TW := fun w h => tw_of (goodIn_r _ [290, 292, 294, 296, 298, 300, 302, 304, 306, 308, 310] (by decide +kernel) (by decide +kernel)) (by decide +kernel) w h
theorem inX7 : ∀ w ∈ u_ws RX7 TX7 21, w ∈ TW := fun w h => tw_of (goodIn_r _ [804, 806, 808, 810, 812, 814, 816, 818, 820, 822, 824, 826, 828, 830, 832, 834, 836, 838, 840, 842, 844] (by decide +kernel) (by decide +kernel)) (by decide +kernel) w h
end
section
/-! ===== the abstract machine: a fixed world of 73 cells, its numbers in one memory g; what a stretch of bytecode answers is a function F ===== -/
abbrev Mem : Type := Nat → Nat → Int32
abbrev AV : Type := Int32 ⊕ Nat
abbrev MT : Type := MethodName × ByteArray × Nat × Option FieldType × Nat × Nat
abbrev SH : Type := Nat × Nat × List (Option Nat)
def cv (ad : Nat → Nat) (v : AV) : Value := match v with
  | .inl x => .int x
  | .inr k => .ref (ad k)
theorem cv_cat (ad : Nat → Nat) (v : AV) : (cv ad v).category = 1 := by cases v <;> rfl
theorem cat_sum (ad : Nat → Nat) (st : List AV) : ((st.map (cv ad)).map fun v => v.category).sum = st.length := by
  induction st with
  | nil => rfl
  | cons a t ih =>
    show (cv ad a).category + ((t.map (cv ad)).map fun v => v.category).sum = t.length + 1
    rw [ih, cv_cat]; omega
def upR (g : Mem) (k : Nat) (f : Nat → Int32) : Mem := fun a => if a = k then f else g a
def up (g : Mem) (k i : Nat) (v : Int32) : Mem := upR g k (upd (g k) i v)
def cpy (g : Mem) (a sp b dp n : Nat) : Mem := upR g b (va_cpy (g a) (g b) sp dp n)
def ushr (x y : Int32) : Int32 := (x.toUInt32 >>> (y.toUInt32 &&& Int32.toUInt32 31)).toInt32
def irm (x y : Int32) : Int32 := x - x / y * y
def mx (x y : Int32) : Int32 := if x < y then y else x
def mn (x y : Int32) : Int32 := if y < x then y else x
/-! the words of the functions -/
def lt (e : Int32) (G : Int32 → Option (Int32 × Mem)) : Option (Int32 × Mem) := G e
def nz (y : Int32) (F : Option (Int32 × Mem)) : Option (Int32 × Mem) := if y = 0 then none else F
def rz (x : Int32) (g : Mem) : Option (Int32 × Mem) := if x = 0 ∨ x = 1 then some (x, g) else none
def pf (g : Mem) (k i : Nat) (x : Int32) (G : Mem → Option (Int32 × Mem)) : Option (Int32 × Mem) := G (up g k i x)
def pz (g : Mem) (k i : Nat) (x : Int32) (G : Mem → Option (Int32 × Mem)) : Option (Int32 × Mem) := if x = 0 ∨ x = 1 then G (up g k i x) else none
def al (g : Mem) (a n : Nat) (x : Int32) (G : Int32 → Option (Int32 × Mem)) : Option (Int32 × Mem) := if x < 0 ∨ n ≤ x.toNatClampNeg then none else G (g a x.toNatClampNeg)
def as_ (g : Mem) (a n : Nat) (x v : Int32) (G : Mem → Option (Int32 × Mem)) : Option (Int32 × Mem) := if x < 0 ∨ n ≤ x.toNatClampNeg then none else G (up g a x.toNatClampNeg v)
def sl (f : Nat → Int32) (n : Nat) (x : Int32) (G : Int32 → Option (Int32 × Mem)) : Option (Int32 × Mem) := if x < 0 ∨ n ≤ x.toNatClampNeg then none else G (f x.toNatClampNeg)
def r2 (x : Int32) (F1 F2 : Option (Int32 × Mem)) : Option (Int32 × Mem) := if x = 0 then F1 else if x = 1 then F2 else none
def cl (o : Option (Int32 × Mem)) (K : Int32 → Mem → Option (Int32 × Mem)) : Option (Int32 × Mem) := match o with
  | none => none
  | some (r, g) => K r g
def ac (g : Mem) (a n0 : Nat) (sp : Int32) (b n1 : Nat) (dp n : Int32) (G : Mem → Option (Int32 × Mem)) : Option (Int32 × Mem) :=
  if ¬ sp < 0 ∧ ¬ dp < 0 ∧ ¬ n < 0 ∧ sp.toNatClampNeg + n.toNatClampNeg ≤ n0 ∧ dp.toNatClampNeg + n.toNatClampNeg ≤ n1 then G (cpy g a sp.toNatClampNeg b dp.toNatClampNeg n.toNatClampNeg) else none
theorem nz_some {y : Int32} {F o : Option (Int32 × Mem)} (h : nz y F = o) (ho : o.isSome = true := by rfl) : ¬ y = 0 ∧ F = o := by
  unfold nz at h
  by_cases hy : y = 0
  · rw [if_pos hy] at h; subst h; cases ho
  · rw [if_neg hy] at h; exact ⟨hy, h⟩
theorem rz_some {x : Int32} {g : Mem} {q : Int32 × Mem} (h : rz x g = some q) : (x = 0 ∨ x = 1) ∧ some (x, g) = some q := by
  unfold rz at h
  by_cases hy : x = 0 ∨ x = 1
  · rw [if_pos hy] at h; exact ⟨hy, h⟩
  · rw [if_neg hy] at h; cases h
theorem rz_some' {g : Mem} {k i : Nat} {x : Int32} {G : Mem → Option (Int32 × Mem)} {q : Int32 × Mem} (h : pz g k i x G = some q) : (x = 0 ∨ x = 1) ∧ G (up g k i x) = some q := by
  unfold pz at h
  by_cases hy : x = 0 ∨ x = 1
  · rw [if_pos hy] at h; exact ⟨hy, h⟩
  · rw [if_neg hy] at h; cases h
theorem al_some {g : Mem} {a n : Nat} {x : Int32} {G : Int32 → Option (Int32 × Mem)} {q : Int32 × Mem} (h : al g a n x G = some q) : vp_in x n ∧ G (g a x.toNatClampNeg) = some q := by
  unfold al at h
  by_cases hy : x < 0 ∨ n ≤ x.toNatClampNeg
  · rw [if_pos hy] at h; cases h
  · rw [if_neg hy] at h; exact ⟨hy, h⟩
theorem as_some {g : Mem} {a n : Nat} {x v : Int32} {G : Mem → Option (Int32 × Mem)} {q : Int32 × Mem} (h : as_ g a n x v G = some q) : vp_in x n ∧ G (up g a x.toNatClampNeg v) = some q := by
  unfold as_ at h
  by_cases hy : x < 0 ∨ n ≤ x.toNatClampNeg
  · rw [if_pos hy] at h; cases h
  · rw [if_neg hy] at h; exact ⟨hy, h⟩
theorem sl_some {f : Nat → Int32} {n : Nat} {x : Int32} {G : Int32 → Option (Int32 × Mem)} {q : Int32 × Mem} (h : sl f n x G = some q) : vp_in x n ∧ G (f x.toNatClampNeg) = some q := by
  unfold sl at h
  by_cases hy : x < 0 ∨ n ≤ x.toNatClampNeg
  · rw [if_pos hy] at h; cases h
  · rw [if_neg hy] at h; exact ⟨hy, h⟩
theorem r2_some {x : Int32} {F1 F2 : Option (Int32 × Mem)} {q : Int32 × Mem} (h : r2 x F1 F2 = some q) : (x = 0 ∧ F1 = some q) ∨ (x = 1 ∧ F2 = some q) := by
  unfold r2 at h
  by_cases h0 : x = 0
  · rw [if_pos h0] at h; exact Or.inl ⟨h0, h⟩
  · rw [if_neg h0] at h
    by_cases h1 : x = 1
    · rw [if_pos h1] at h; exact Or.inr ⟨h1, h⟩
    · rw [if_neg h1] at h; cases h
theorem cl_some {o : Option (Int32 × Mem)} {K : Int32 → Mem → Option (Int32 × Mem)} {q : Int32 × Mem} (h : cl o K = some q) : ∃ r g, o = some (r, g) ∧ K r g = some q := by
  cases o with
  | none => cases h
  | some z => exact ⟨z.1, z.2, rfl, h⟩
theorem ac_some {g : Mem} {a n0 b n1 : Nat} {sp dp n : Int32} {G : Mem → Option (Int32 × Mem)} {q : Int32 × Mem} (h : ac g a n0 sp b n1 dp n G = some q) :
    (¬ sp < 0 ∧ ¬ dp < 0 ∧ ¬ n < 0 ∧ sp.toNatClampNeg + n.toNatClampNeg ≤ n0 ∧ dp.toNatClampNeg + n.toNatClampNeg ≤ n1) ∧ G (cpy g a sp.toNatClampNeg b dp.toNatClampNeg n.toNatClampNeg) = some q := by
  unfold ac at h
  by_cases hy : ¬ sp < 0 ∧ ¬ dp < 0 ∧ ¬ n < 0 ∧ sp.toNatClampNeg + n.toNatClampNeg ≤ n0 ∧ dp.toNatClampNeg + n.toNatClampNeg ≤ n1
  · rw [if_pos hy] at h; exact ⟨hy, h⟩
  · rw [if_neg hy] at h; cases h
/-! the shape of the world -/
def shCourt (b : Nat) : SH := (0, 2, [none, none, none, none, some (b + 1), none, some (b + 2), some (b + 3), some (b + 4), some (b + 5), none, some (b + 6), some (b + 7), some (b + 8), some (b + 9), none, none])
def shInts (n : Nat) : SH := (1, n, [])
def shC (b : Nat) : List SH := [shCourt b, shInts 8, shInts 6, shInts 6, shInts 6, shInts 6, shInts 4, shInts 4, shInts 4, shInts 4]
def shL : List SH :=
  [(0, 6, [some 1, some 5, some 7, some 17, some 27, some 48, some 55, some 58, some 60, none, none]),
   (0, 4, [some 2, some 3, some 4]), shInts 8, shInts 8, shInts 320,
   (0, 5, [some 6, none, none, none, none]), shInts 120] ++ shC 7 ++ shC 17 ++ [(3, 2, [some 28, some 38])] ++ shC 28 ++ shC 38 ++
  [(0, 0, [some 49, some 50, some 51, some 52, some 53, some 54, none, none]), shInts 24, shInts 24, shInts 24, shInts 24, shInts 24, shInts 24,
   (0, 3, [some 56, some 57]), shInts 256, shInts 5, (0, 1, [some 59, none]), shInts 16, shInts 6] ++
  [(0, 7, [some 62, some 63, some 64, none, none, some 65, none, none, none, none, none, none, some 66, some 67, some 68, some 69, some 70, none, some 71, none, some 72]), shInts 8, shInts 8, shInts 320, shInts 120, shInts 50, shInts 50, shInts 100, (2, 2, []), shInts 1200, shInts 16, shInts 256]
def sh (k : Nat) : SH := (shL[k]?).getD (9, 0, [])
def CE (ad : Nat → Nat) (cs : Nat → ClassId) (f : Nat → Int32) (s : SH) : va_E :=
  if s.1 = 0 then .inr (s.2.1, s.2.2.mapIdx (fun i o => match o with | some j => Value.ref (ad j) | none => Value.int (f i)))
  else if s.1 = 1 then .inl (cs 0, s.2.1, .inl f)
  else if s.1 = 2 then .inl (cs 1, s.2.1, .inl f)
  else .inl (cs 2, s.2.1, .inr (.inr (.inr (.inr (fun i => ((s.2.2[i]?).getD none).map ad)))))
abbrev TY (cs : Nat → ClassId) : List (ClassId × FieldType) := [(cs 0, .int), (cs 1, .boolean), (cs 2, .object "ThreeRiddles$Court")]
def WS (ad : Nat → Nat) (cs : Nat → ClassId) (g : Mem) : va_W := (List.range 73).map (fun k => (ad k, CE ad cs (g k) (sh k)))
def AD (A : Nat → Prop) (ad : Nat → Nat) : Prop := (∀ i j : Nat, i < 73 → j < 73 → ad i = ad j → i = j) ∧ ∀ k : Nat, k < 73 → A (ad k)
theorem WS_get {ad : Nat → Nat} {cs : Nat → ClassId} {g : Mem} {k : Nat} (h : k < 73) : (WS ad cs g)[k]? = some (ad k, CE ad cs (g k) (sh k)) := by
  unfold WS
  rw [List.getElem?_map, List.getElem?_range h]; rfl
theorem WS_inv {ad : Nat → Nat} {cs : Nat → ClassId} {g : Mem} {k : Nat} {q : Nat × va_E} (h : (WS ad cs g)[k]? = some q) : k < 73 ∧ q = (ad k, CE ad cs (g k) (sh k)) := by
  by_cases hk : k < 73
  · rw [WS_get hk] at h; exact ⟨hk, (Option.some.inj h).symm⟩
  · unfold WS at h
    rw [List.getElem?_eq_none (by simp; omega)] at h; cases h
theorem AD_D {A : Nat → Prop} {ad : Nat → Nat} (h : AD A ad) {cs : Nat → ClassId} {g : Mem} : va_D A (WS ad cs g) := by
  refine ⟨fun i j p q hp hq e => ?_, fun k q hq => ?_⟩
  · obtain ⟨hi, rfl⟩ := WS_inv hp
    obtain ⟨hj, rfl⟩ := WS_inv hq
    exact h.1 i j hi hj e
  · obtain ⟨hk, rfl⟩ := WS_inv hq
    exact h.2 k hk
theorem WS_set {ad : Nat → Nat} {cs : Nat → ClassId} {g : Mem} {k : Nat} (h : k < 73) (f : Nat → Int32) : (WS ad cs g).set k (ad k, CE ad cs f (sh k)) = WS ad cs (upR g k f) := by
  apply List.ext_getElem?
  intro j
  by_cases hj : j < 73
  · rw [WS_get hj]
    by_cases hk : k = j
    · subst hk
      rw [List.getElem?_set_self (by unfold WS; simp; exact h)]
      simp [upR]
    · rw [List.getElem?_set_ne hk, WS_get hj]
      have : ¬ j = k := fun q => hk q.symm
      simp [upR, this]
  · rw [List.getElem?_eq_none (by simp [WS]; omega), List.getElem?_eq_none (by simp [WS]; omega)]
theorem WS_obj {ad : Nat → Nat} {cs : Nat → ClassId} {g : Mem} {k ci : Nat} {rs : List (Option Nat)} (h : k < 73) (hs : sh k = (0, ci, rs)) : (WS ad cs g)[k]? = some (ad k, .inr (ci, rs.mapIdx (fun i o => match o with | some j => Value.ref (ad j) | none => Value.int (g k i)))) := by
  rw [WS_get h, hs]; rfl
theorem WS_arr {ad : Nat → Nat} {cs : Nat → ClassId} {g : Mem} {k n : Nat} {rs : List (Option Nat)} (h : k < 73) (hs : sh k = (1, n, rs)) : (WS ad cs g)[k]? = some (ad k, .inl (cs 0, n, .inl (g k))) := by
  rw [WS_get h, hs]; rfl
theorem WS_arz {ad : Nat → Nat} {cs : Nat → ClassId} {g : Mem} {k n : Nat} {rs : List (Option Nat)} (h : k < 73) (hs : sh k = (2, n, rs)) : (WS ad cs g)[k]? = some (ad k, .inl (cs 1, n, .inl (g k))) := by
  rw [WS_get h, hs]; rfl
theorem WS_arq {ad : Nat → Nat} {cs : Nat → ClassId} {g : Mem} {k n : Nat} {rs : List (Option Nat)} (h : k < 73) (hs : sh k = (3, n, rs)) : (WS ad cs g)[k]? = some (ad k, .inl (cs 2, n, .inr (.inr (.inr (.inr (fun i => ((rs[i]?).getD none).map ad)))))) := by
  rw [WS_get h, hs]; rfl
theorem WS_put {ad : Nat → Nat} {cs : Nat → ClassId} {g : Mem} {k ci i : Nat} {x : Int32} {rs : List (Option Nat)} (h : k < 73) (hs : sh k = (0, ci, rs)) (hi : rs[i]? = some none) :
    (WS ad cs g).set k (ad k, .inr (ci, (rs.mapIdx (fun i o => match o with | some j => Value.ref (ad j) | none => Value.int (g k i))).set i (.int x))) = WS ad cs (up g k i x) := by
  unfold up
  rw [← WS_set h, hs]
  show _ = (WS ad cs g).set k (ad k, .inr (ci, rs.mapIdx (fun i_1 o => match o with | some j => Value.ref (ad j) | none => Value.int (upd (g k) i x i_1))))
  congr 4
  apply List.ext_getElem?
  intro j
  by_cases hj : i = j
  · subst hj
    rw [List.getElem?_set_self (by rw [List.length_mapIdx]; exact (List.getElem?_eq_some_iff.mp hi).1), List.getElem?_mapIdx, hi]
    simp [upd]
  · rw [List.getElem?_set_ne hj, List.getElem?_mapIdx, List.getElem?_mapIdx]
    have hj' : ¬ j = i := fun q => hj q.symm
    simp [upd, hj']
theorem WS_ast {ad : Nat → Nat} {cs : Nat → ClassId} {g : Mem} {k n i : Nat} {x : Int32} {rs : List (Option Nat)} (h : k < 73) (hs : sh k = (1, n, rs)) :
    (WS ad cs g).set k (ad k, .inl (cs 0, n, .inl (upd (g k) i x))) = WS ad cs (up g k i x) := by
  unfold up
  rw [← WS_set h, hs]; rfl
theorem WS_asz {ad : Nat → Nat} {cs : Nat → ClassId} {g : Mem} {k n i : Nat} {x : Int32} {rs : List (Option Nat)} (h : k < 73) (hs : sh k = (2, n, rs)) :
    (WS ad cs g).set k (ad k, .inl (cs 1, n, .inl (upd (g k) i x))) = WS ad cs (up g k i x) := by
  unfold up
  rw [← WS_set h, hs]; rfl
theorem WS_cpy {ad : Nat → Nat} {cs : Nat → ClassId} {g : Mem} {a k n sp dp c : Nat} {rs : List (Option Nat)} (h : k < 73) (hs : sh k = (1, n, rs)) :
    (WS ad cs g).set k (ad k, .inl (cs 0, n, .inl (va_cpy (g a) (g k) sp dp c))) = WS ad cs (cpy g a sp k dp c) := by
  unfold cpy
  rw [← WS_set h, hs]; rfl
/-! locals -/
def nth : List (Option AV) → Nat → Option AV
  | [], _ => none
  | a :: _, 0 => a
  | _ :: t, n + 1 => nth t n
def setL : List (Option AV) → Nat → AV → List (Option AV)
  | [], _, _ => []
  | _ :: t, 0, v => some v :: t
  | a :: t, n + 1, v => a :: setL t n v
def msk : List Bool → List (Option AV) → List (Option AV)
  | true :: bs, a :: t => a :: msk bs t
  | false :: bs, _ :: t => none :: msk bs t
  | _, _ => []
theorem nth_lt {L : List (Option AV)} {k : Nat} {v : AV} (h : nth L k = some v) : k < L.length := by
  induction L generalizing k with
  | nil => cases h
  | cons a t ih =>
    cases k with
    | zero => simp
    | succ n => simpa using ih (k := n) h
theorem nth_setL {L : List (Option AV)} {i k : Nat} {v w : AV} (h : nth (setL L i v) k = some w) : (k = i ∧ w = v) ∨ (k ≠ i ∧ nth L k = some w) := by
  induction L generalizing i k with
  | nil => cases h
  | cons a t ih =>
    cases i with
    | zero =>
      cases k with
      | zero => left; exact ⟨rfl, (Option.some.inj h).symm⟩
      | succ n => right; exact ⟨by omega, h⟩
    | succ j =>
      cases k with
      | zero => right; exact ⟨by omega, h⟩
      | succ n =>
        rcases ih (i := j) (k := n) h with ⟨q1, q2⟩ | ⟨q1, q2⟩
        · left; exact ⟨by omega, q2⟩
        · right; exact ⟨by omega, q2⟩
theorem msk_nth (bs : List Bool) {L : List (Option AV)} {i : Nat} {w : AV} (h : nth (msk bs L) i = some w) : nth L i = some w := by
  induction L generalizing bs i with
  | nil => cases bs with
    | nil => cases h
    | cons b bs => cases b <;> cases h
  | cons a t ih =>
    cases bs with
    | nil => cases h
    | cons b bs =>
      cases b with
      | true =>
        cases i with
        | zero => exact h
        | succ n => exact ih bs (i := n) h
      | false =>
        cases i with
        | zero => cases h
        | succ n => exact ih bs (i := n) h
def LV (ad : Nat → Nat) (ls : Array Slot) (nL : Nat) (L : List (Option AV)) : Prop := ls.size = nL ∧ lv_wf ls ∧ ∀ (k : Nat) (v : AV), nth L k = some v → ls[k]? = some (.val (cv ad v))
def prs (ad : Nat → Nat) (L : List (Option AV)) : List (Nat × Value) := (List.range L.length).filterMap (fun k => (nth L k).map (fun v => (k, cv ad v)))
theorem prs_mem {ad : Nat → Nat} {L : List (Option AV)} {k : Nat} {v : AV} (h : nth L k = some v) : (k, cv ad v) ∈ prs ad L :=
  List.mem_filterMap.mpr ⟨k, List.mem_range.mpr (nth_lt h), by rw [h]; rfl⟩
theorem LV_has {ad : Nat → Nat} {ls : Array Slot} {nL : Nat} {L : List (Option AV)} (h : LV ad ls nL L) : lv_has ls nL (prs ad L) := by
  refine ⟨h.1, h.2.1, fun q hq => ?_⟩
  obtain ⟨k, -, hk⟩ := List.mem_filterMap.mp hq
  cases hv : nth L k with
  | none => rw [hv] at hk; cases hk
  | some v =>
    rw [hv] at hk
    cases hk
    exact h.2.2 k v hv
theorem LV_place {ad : Nat → Nat} {L : List (Option AV)} {k : Nat} {x : Int32} (h : nth L k = some (.inl x)) : ∃ j : Nat, (prs ad L)[j]? = some (k, .int x) := List.getElem?_of_mem (prs_mem (ad := ad) h)
theorem LV_set {ad : Nat → Nat} {ls ls' : Array Slot} {nL i : Nat} {x : Int32} {L : List (Option AV)} (h : LV ad ls nL L) (h' : lv_has ls' nL ((i, Value.int x) :: (prs ad L).filter (fun q => !(q.1 == i) && !(q.1 + 1 == i && q.2.category == 2)))) : LV ad ls' nL (setL L i (.inl x)) := by
  refine ⟨h'.1, h'.2.1, fun k v hv => ?_⟩
  rcases nth_setL hv with ⟨rfl, rfl⟩ | ⟨hk, hv⟩
  · exact h'.2.2 _ List.mem_cons_self
  · refine h'.2.2 (k, cv ad v) (List.mem_cons_of_mem _ (List.mem_filter.mpr ⟨prs_mem hv, ?_⟩))
    simp [hk, cv_cat]
theorem nar_z {x : Int32} (h : x = 0 ∨ x = 1) : narrow .boolean (.int x) = .int x := by rcases h with rfl | rfl <;> rfl
theorem fit_z {x : Int32} (h : x = 0 ∨ x = 1) : fits .boolean (.int x) = true := by rcases h with rfl | rfl <;> rfl
/-! the judgement -/
def CX (M : MT) (X : Option (Nat × (Nat → Int32))) (p : Program) (R : Room) (s : State) (m : MethodId) (args : Array Value) (c : Code) (D : va_G) (ad : Nat → Nat) (cs : Nat → ClassId) (A : Nat → Prop) (cells slots : Nat) : Prop :=
  p.tables.exec = Jvm.exec ∧ c.code = M.2.1 ∧ c.maxLocals = M.2.2.1 ∧ s.vm.findClass M.1.cls = some m.cls ∧ (∀ w ∈ TW, w.before args s = true) ∧ va_K D vwCl (TY cs) s ∧ AD A ad ∧ (∀ q : Nat, s.heap.size ≤ q → A q) ∧
  (R.frames = M.2.2.2.2.1 ∧ R.locals = M.2.2.2.2.2 ∧ cells ≤ R.cells ∧ slots ≤ R.slots) ∧ ∀ q : Nat × (Nat → Int32), X = some q → va_X (ad 73) q.1 q.2 s s.heap ∧ ad 73 < s.heap.size ∧ ¬ A (ad 73)
def EN (M : MT) (p : Program) (l : Launch) (e : Env) (R : Room) (s : State) (m : MethodId) (args : Array Value) (below : List Frame) (meth : Method) (c : Code) (D : va_G) (ad : Nat → Nat) (cs : Nat → ClassId) (A : Nat → Prop) (cells slots : Nat) (Z : State → Prop) (r : Int32) (g' : Mem) : Prop :=
  ∀ (H : Heap) (locs : List Loc) (ls : Array Slot) (pc : Nat), va_P D vwCl (WS ad cs g') H → va_S A s.heap H locs →
    (decode M.2.1 pc = .ok (.ireturn, 1) → M.2.2.2.1 ≠ none → (M.2.2.2.1 = some .boolean → r = 0 ∨ r = 1) → W p l e R s m args below meth c H locs cells slots Z (F0 m pc ls [.int r])) ∧
    (decode M.2.1 pc = .ok (.return_, 1) → M.2.2.2.1 = none → r = 0 → W p l e R s m args below meth c H locs cells slots Z (F0 m pc ls []))
def aw (M : MT) (X : Option (Nat × (Nat → Int32))) (pc : Nat) (L : List (Option AV)) (st : List AV) (g : Mem) (F : Option (Int32 × Mem)) : Prop :=
  ∀ (r : Int32) (g' : Mem), F = some (r, g') → ∀ (p : Program) (l : Launch) (e : Env) (R : Room) (s : State) (m : MethodId) (args : Array Value) (below : List Frame) (meth : Method) (c : Code) (D : va_G) (ad : Nat → Nat) (cs : Nat → ClassId) (A : Nat → Prop) (cells slots : Nat) (Z : State → Prop),
    CX M X p R s m args c D ad cs A cells slots → EN M p l e R s m args below meth c D ad cs A cells slots Z r g' →
    ∀ (H : Heap) (locs : List Loc) (ls : Array Slot), va_P D vwCl (WS ad cs g) H → va_S A s.heap H locs → LV ad ls M.2.2.1 L → W p l e R s m args below meth c H locs cells slots Z (F0 m pc ls (st.map (cv ad)))
def IN (M : MT) (pc : Nat) (i : Instr) (n pc' : Nat) : Prop := decode M.2.1 pc = .ok (i, n) ∧ pc + n = pc'
def BR (M : MT) (pc : Nat) (i : Instr) (pc' tgt : Nat) (off : Int) : Prop := decode M.2.1 pc = .ok (i, 3) ∧ pc + 3 = pc' ∧ (pc : Int) + off = (tgt : Int)
/-- a field by its link: the class's number, the slot -/
def FL (own : String) (idx ci i : Nat) : Prop := ∃ (C : String) (T : u_T) (N : Nat), vwCl[ci]? = some (C, T, N) ∧ i < N ∧ (∀ w ∈ u_ws C T N, w ∈ TW) ∧ Cond.fieldLink own idx (T i).1 (T i).2.1 (T i).2.2.1 ∈ TW
def FP (own : String) (idx ci i : Nat) (ty : FieldType) : Prop := ∃ (C : String) (T : u_T) (N : Nat) (ty0 : Nat → FieldType), vwCl[ci]? = some (C, T, N) ∧ i < N ∧ (∀ w ∈ u_ws C T N, w ∈ TW) ∧ Cond.fieldLink own idx (T i).1 (T i).2.1 (T i).2.2.1 ∈ TW ∧
  (∀ k, k < N → parseFieldDescriptor (T k).2.2.1 = some (ty0 k)) ∧ (∀ a, a < N → ∀ b, b < N → a ≠ b → (T a).2.1 ≠ (T b).2.1) ∧ (T i).2.2.2 = false ∧ parseFieldDescriptor (T i).2.2.1 = some ty
def MMx (nm : MethodName) (cd : ByteArray) (own : String) (idx : Nat) : Prop := Cond.methodLink own idx nm ∈ TW ∧ Cond.static nm ∈ TW ∧ Cond.initialized "java/lang/Math" ∈ TW ∧ Cond.code nm cd 2 (some .int) ∈ TW
def MAc (own : String) (idx : Nat) : Prop := Cond.methodLink own idx arraycopyName ∈ TW ∧ Cond.native arraycopyName ∈ TW ∧ Cond.static arraycopyName ∈ TW ∧ Cond.initialized "java/lang/System" ∈ TW
/-! contracts and calls -/
def QX (ret : Option FieldType) (r : Int32) (g' : Mem) (D : va_G) (ad : Nat → Nat) (cs : Nat → ClassId) (A : Nat → Prop) : Array Value → State → Outcome → State → Prop := match ret with
  | none => va_Qv (S := Unit) (fun _ => r = 0) (fun _ t => va_P D vwCl (WS ad cs g') t.heap) A
  | some _ => va_Qi (S := Unit) (fun r' _ => r' = r) (fun _ t => va_P D vwCl (WS ad cs g') t.heap) A
def CT (M : MT) (As : List AV) (g : Mem) (F : Option (Int32 × Mem)) : Prop :=
  ∀ (r : Int32) (g' : Mem), F = some (r, g') → ∀ (l : Launch) (D : va_G) (ad : Nat → Nat) (cs : Nat → ClassId) (sz : Nat),
    Met l M.1 (Cond.code M.1 M.2.1 M.2.2.1 M.2.2.2.1 :: TW) { frames := M.2.2.2.2.1, cells := 0, slots := 0, locals := M.2.2.2.2.2 }
      (va_Pc (As.map (cv ad)) (fun U => U.heap.size = sz ∧ va_P D vwCl (WS ad cs g) U.heap ∧ va_K D vwCl (TY cs) U ∧ AD (fun _ => True) ad))
      (QX M.2.2.2.1 r g' D ad cs (va_A (WS ad cs g) sz)) 0 0 (va_A (WS ad cs g) sz)
/-- what the tables say of a method: code, class; of an instance: its choice -/
def MC (M : MT) (n : Nat) : Prop := Cond.code M.1 M.2.1 M.2.2.1 M.2.2.2.1 ∈ TW ∧ Cond.initialized M.1.cls ∈ TW ∧ M.1.cls ≠ "java/lang/invoke/MethodHandle" ∧ M.1.cls ≠ "java/lang/invoke/VarHandle" ∧ (parseMethodDescriptor M.1.desc).map (fun d => d.parameters.length) = some n
def MV (M : MT) : Prop := Cond.instanceMethod M.1 ∈ TW ∧ Cond.selects M.1.cls M.1 M.1 ∈ TW
def RC (k : Nat) (C : String) : Prop := k < 73 ∧ ∃ (ci : Nat) (rs : List (Option Nat)) (T : u_T) (N : Nat), sh k = (0, ci, rs) ∧ vwCl[ci]? = some (C, T, N)
def pu : List AV → List AV → List AV
  | [], st => st
  | a :: t, st => pu t (a :: st)
theorem pu_eq (As st : List AV) : pu As st = As.reverse ++ st := by
  induction As generalizing st with
  | nil => rfl
  | cons a t ih => show pu t (a :: st) = _; rw [ih, List.reverse_cons, List.append_assoc]; rfl
theorem pu_map (ad : Nat → Nat) (As st : List AV) : (pu As st).map (cv ad) = (As.map (cv ad)).reverse ++ st.map (cv ad) := by
  rw [pu_eq, List.map_append, List.map_reverse]
theorem lw_goodIn {big : List Cond} (hb : ∀ w ∈ TW, w ∈ big) (ws : List Cond) (h : ∀ w ∈ ws, w ∈ TW) : GoodIn big ws := fun w hw => ⟨hb w (h w hw), good_of_word (List.mem_filter.mp (h w hw)).2⟩
theorem AD_A {A : Nat → Prop} {ad : Nat → Nat} (h : AD A ad) {cs : Nat → ClassId} {g : Mem} {H0 H : Heap} {locs : List Loc} (hS : va_S A H0 H locs) (hA : ∀ q : Nat, H0.size ≤ q → A q) : ∀ q, va_A (WS ad cs g) H.size q → A q := by
  intro q hq
  rcases hq with ⟨k, e, hk⟩ | hq
  · obtain ⟨hk73, he⟩ := WS_inv hk
    have hq : q = ad k := congrArg Prod.fst he
    rw [hq]
    exact h.2 k hk73
  · exact hA q (Nat.le_trans hS.1 hq)
section AWS
variable {M M' : MT} {X : Option (Nat × (Nat → Int32))} {pc pc' tgt : Nat} {L L' : List (Option AV)} {st : List AV} {g : Mem} {F F1 F2 : Option (Int32 × Mem)} {x y v : Int32}
theorem aw_iadd (h : IN M pc .iadd 1 pc') (k : aw M X pc' L (.inl (x + y) :: st) g F) : aw M X pc L (.inl y :: .inl x :: st) g F := by
  intro r g' hF p l e R s m args below meth c D ad cs A cells slots Z C E H locs ls hP hS hl
  obtain ⟨h1, rfl⟩ := h
  exact lv_iadd C.1 C.2.1 h1 (k r g' hF p l e R s m args below meth c D ad cs A cells slots Z C E H locs ls hP hS hl)
theorem aw_isub (h : IN M pc .isub 1 pc') (k : aw M X pc' L (.inl (x - y) :: st) g F) : aw M X pc L (.inl y :: .inl x :: st) g F := by
  intro r g' hF p l e R s m args below meth c D ad cs A cells slots Z C E H locs ls hP hS hl
  obtain ⟨h1, rfl⟩ := h
  exact lv_isub C.1 C.2.1 h1 (k r g' hF p l e R s m args below meth c D ad cs A cells slots Z C E H locs ls hP hS hl)
theorem aw_imul (h : IN M pc .imul 1 pc') (k : aw M X pc' L (.inl (x * y) :: st) g F) : aw M X pc L (.inl y :: .inl x :: st) g F := by
  intro r g' hF p l e R s m args below meth c D ad cs A cells slots Z C E H locs ls hP hS hl
  obtain ⟨h1, rfl⟩ := h
  exact lv_imul C.1 C.2.1 h1 (k r g' hF p l e R s m args below meth c D ad cs A cells slots Z C E H locs ls hP hS hl)
theorem aw_iand (h : IN M pc .iand 1 pc') (k : aw M X pc' L (.inl (x &&& y) :: st) g F) : aw M X pc L (.inl y :: .inl x :: st) g F := by
  intro r g' hF p l e R s m args below meth c D ad cs A cells slots Z C E H locs ls hP hS hl
  obtain ⟨h1, rfl⟩ := h
  exact lv_iand C.1 C.2.1 h1 (k r g' hF p l e R s m args below meth c D ad cs A cells slots Z C E H locs ls hP hS hl)
theorem aw_ior (h : IN M pc .ior 1 pc') (k : aw M X pc' L (.inl (x ||| y) :: st) g F) : aw M X pc L (.inl y :: .inl x :: st) g F := by
  intro r g' hF p l e R s m args below meth c D ad cs A cells slots Z C E H locs ls hP hS hl
  obtain ⟨h1, rfl⟩ := h
  exact lv_ior C.1 C.2.1 h1 (k r g' hF p l e R s m args below meth c D ad cs A cells slots Z C E H locs ls hP hS hl)
theorem aw_ixor (h : IN M pc .ixor 1 pc') (k : aw M X pc' L (.inl (x ^^^ y) :: st) g F) : aw M X pc L (.inl y :: .inl x :: st) g F := by
  intro r g' hF p l e R s m args below meth c D ad cs A cells slots Z C E H locs ls hP hS hl
  obtain ⟨h1, rfl⟩ := h
  exact lv_ixor C.1 C.2.1 h1 (k r g' hF p l e R s m args below meth c D ad cs A cells slots Z C E H locs ls hP hS hl)
theorem aw_ishl (h : IN M pc .ishl 1 pc') (k : aw M X pc' L (.inl (x <<< (y &&& 31)) :: st) g F) : aw M X pc L (.inl y :: .inl x :: st) g F := by
  intro r g' hF p l e R s m args below meth c D ad cs A cells slots Z C E H locs ls hP hS hl
  obtain ⟨h1, rfl⟩ := h
  exact lv_ishl C.1 C.2.1 h1 (k r g' hF p l e R s m args below meth c D ad cs A cells slots Z C E H locs ls hP hS hl)
theorem aw_ishr (h : IN M pc .ishr 1 pc') (k : aw M X pc' L (.inl (x >>> (y &&& 31)) :: st) g F) : aw M X pc L (.inl y :: .inl x :: st) g F := by
  intro r g' hF p l e R s m args below meth c D ad cs A cells slots Z C E H locs ls hP hS hl
  obtain ⟨h1, rfl⟩ := h
  exact lv_ishr C.1 C.2.1 h1 (k r g' hF p l e R s m args below meth c D ad cs A cells slots Z C E H locs ls hP hS hl)
theorem aw_iushr (h : IN M pc .iushr 1 pc') (k : aw M X pc' L (.inl (ushr x y) :: st) g F) : aw M X pc L (.inl y :: .inl x :: st) g F := by
  intro r g' hF p l e R s m args below meth c D ad cs A cells slots Z C E H locs ls hP hS hl
  obtain ⟨h1, rfl⟩ := h
  exact lv_iushr C.1 C.2.1 h1 rfl (k r g' hF p l e R s m args below meth c D ad cs A cells slots Z C E H locs ls hP hS hl)
theorem aw_ineg (h : IN M pc .ineg 1 pc') (k : aw M X pc' L (.inl (-x) :: st) g F) : aw M X pc L (.inl x :: st) g F := by
  intro r g' hF p l e R s m args below meth c D ad cs A cells slots Z C E H locs ls hP hS hl
  obtain ⟨h1, rfl⟩ := h
  exact lv_ineg C.1 C.2.1 h1 (k r g' hF p l e R s m args below meth c D ad cs A cells slots Z C E H locs ls hP hS hl)
theorem aw_i2b (h : IN M pc .i2b 1 pc') (k : aw M X pc' L (.inl (x.toInt8.toInt32) :: st) g F) : aw M X pc L (.inl x :: st) g F := by
  intro r g' hF p l e R s m args below meth c D ad cs A cells slots Z C E H locs ls hP hS hl
  obtain ⟨h1, rfl⟩ := h
  exact lv_i2b C.1 C.2.1 h1 rfl (k r g' hF p l e R s m args below meth c D ad cs A cells slots Z C E H locs ls hP hS hl)
theorem aw_i2s (h : IN M pc .i2s 1 pc') (k : aw M X pc' L (.inl (x.toInt16.toInt32) :: st) g F) : aw M X pc L (.inl x :: st) g F := by
  intro r g' hF p l e R s m args below meth c D ad cs A cells slots Z C E H locs ls hP hS hl
  obtain ⟨h1, rfl⟩ := h
  exact lv_i2s C.1 C.2.1 h1 rfl (k r g' hF p l e R s m args below meth c D ad cs A cells slots Z C E H locs ls hP hS hl)
theorem aw_idiv (h : IN M pc .idiv 1 pc') (k : aw M X pc' L (.inl (x / y) :: st) g F) : aw M X pc L (.inl y :: .inl x :: st) g (nz y F) := by
  intro r g' hF p l e R s m args below meth c D ad cs A cells slots Z C E H locs ls hP hS hl
  obtain ⟨h1, rfl⟩ := h
  obtain ⟨hne, hF⟩ := nz_some hF
  exact lv_idiv C.1 C.2.1 h1 hne (k r g' hF p l e R s m args below meth c D ad cs A cells slots Z C E H locs ls hP hS hl)
theorem aw_irem (h : IN M pc .irem 1 pc') (k : aw M X pc' L (.inl (irm x y) :: st) g F) : aw M X pc L (.inl y :: .inl x :: st) g (nz y F) := by
  intro r g' hF p l e R s m args below meth c D ad cs A cells slots Z C E H locs ls hP hS hl
  obtain ⟨h1, rfl⟩ := h
  obtain ⟨hne, hF⟩ := nz_some hF
  exact lv_irem C.1 C.2.1 h1 hne (k r g' hF p l e R s m args below meth c D ad cs A cells slots Z C E H locs ls hP hS hl)
theorem aw_iconst {n : Int} (h : IN M pc (.iconst n) 1 pc') (hv : Int32.ofInt n = v) (k : aw M X pc' L (.inl v :: st) g F) : aw M X pc L st g F := by
  intro r g' hF p l e R s m args below meth c D ad cs A cells slots Z C E H locs ls hP hS hl
  obtain ⟨h1, rfl⟩ := h
  exact lv_iconst C.1 C.2.1 h1 hv (k r g' hF p l e R s m args below meth c D ad cs A cells slots Z C E H locs ls hP hS hl)
theorem aw_bipush {n : Int} (h : IN M pc (.bipush n) 2 pc') (hv : (Int8.ofInt n).toInt32 = v) (k : aw M X pc' L (.inl v :: st) g F) : aw M X pc L st g F := by
  intro r g' hF p l e R s m args below meth c D ad cs A cells slots Z C E H locs ls hP hS hl
  obtain ⟨h1, rfl⟩ := h
  exact lv_bipush C.1 C.2.1 h1 hv (k r g' hF p l e R s m args below meth c D ad cs A cells slots Z C E H locs ls hP hS hl)
theorem aw_sipush {n : Int} (h : IN M pc (.sipush n) 3 pc') (hv : (Int16.ofInt n).toInt32 = v) (k : aw M X pc' L (.inl v :: st) g F) : aw M X pc L st g F := by
  intro r g' hF p l e R s m args below meth c D ad cs A cells slots Z C E H locs ls hP hS hl
  obtain ⟨h1, rfl⟩ := h
  exact lv_sipush C.1 C.2.1 h1 hv (k r g' hF p l e R s m args below meth c D ad cs A cells slots Z C E H locs ls hP hS hl)
theorem aw_ldc {n : Nat} (h : IN M pc (.ldc n) 2 pc') (hv : Cond.constant M.1.cls n v ∈ TW) (k : aw M X pc' L (.inl v :: st) g F) : aw M X pc L st g F := by
  intro r g' hF p l e R s m args below meth c D ad cs A cells slots Z C E H locs ls hP hS hl
  obtain ⟨h1, rfl⟩ := h
  exact lv_ldc C.1 C.2.1 C.2.2.2.1 (C.2.2.2.2.1 _ hv) h1 (k r g' hF p l e R s m args below meth c D ad cs A cells slots Z C E H locs ls hP hS hl)
theorem aw_ldcw {n : Nat} (h : IN M pc (.ldc_w n) 3 pc') (hv : Cond.constant M.1.cls n v ∈ TW) (k : aw M X pc' L (.inl v :: st) g F) : aw M X pc L st g F := by
  intro r g' hF p l e R s m args below meth c D ad cs A cells slots Z C E H locs ls hP hS hl
  obtain ⟨h1, rfl⟩ := h
  exact lv_ldcw C.1 C.2.1 C.2.2.2.1 (C.2.2.2.2.1 _ hv) h1 (k r g' hF p l e R s m args below meth c D ad cs A cells slots Z C E H locs ls hP hS hl)
theorem aw_iload_n {q : Fin 4} {i : Nat} (h : IN M pc (.iload_n q) 1 pc') (hi : (q : Nat) = i) (hv : nth L i = some (.inl x)) (k : aw M X pc' L (.inl x :: st) g F) : aw M X pc L st g F := by
  intro r g' hF p l e R s m args below meth c D ad cs A cells slots Z C E H locs ls hP hS hl
  obtain ⟨h1, rfl⟩ := h
  exact lv_iload_n C.1 C.2.1 h1 hi (hl.2.2 _ _ hv) (k r g' hF p l e R s m args below meth c D ad cs A cells slots Z C E H locs ls hP hS hl)
theorem aw_iload {i : Nat} (h : IN M pc (.iload i) 2 pc') (hv : nth L i = some (.inl x)) (k : aw M X pc' L (.inl x :: st) g F) : aw M X pc L st g F := by
  intro r g' hF p l e R s m args below meth c D ad cs A cells slots Z C E H locs ls hP hS hl
  obtain ⟨h1, rfl⟩ := h
  exact lv_iload C.1 C.2.1 h1 (hl.2.2 _ _ hv) (k r g' hF p l e R s m args below meth c D ad cs A cells slots Z C E H locs ls hP hS hl)
theorem aw_aload_n {q : Fin 4} {i a : Nat} (h : IN M pc (.aload_n q) 1 pc') (hi : (q : Nat) = i) (hv : nth L i = some (.inr a)) (k : aw M X pc' L (.inr a :: st) g F) : aw M X pc L st g F := by
  intro r g' hF p l e R s m args below meth c D ad cs A cells slots Z C E H locs ls hP hS hl
  obtain ⟨h1, rfl⟩ := h
  exact lv_aload_n C.1 C.2.1 h1 hi (hl.2.2 _ _ hv) (k r g' hF p l e R s m args below meth c D ad cs A cells slots Z C E H locs ls hP hS hl)
theorem aw_aload {i a : Nat} (h : IN M pc (.aload i) 2 pc') (hv : nth L i = some (.inr a)) (k : aw M X pc' L (.inr a :: st) g F) : aw M X pc L st g F := by
  intro r g' hF p l e R s m args below meth c D ad cs A cells slots Z C E H locs ls hP hS hl
  obtain ⟨h1, rfl⟩ := h
  exact lv_aload C.1 C.2.1 h1 (hl.2.2 _ _ hv) (k r g' hF p l e R s m args below meth c D ad cs A cells slots Z C E H locs ls hP hS hl)
theorem aw_istore_n {q : Fin 4} {i : Nat} (h : IN M pc (.istore_n q) 1 pc') (hi : (q : Nat) = i) (hn : i < M.2.2.1) (hL : setL L i (.inl x) = L') (k : aw M X pc' L' st g F) : aw M X pc L (.inl x :: st) g F := by
  intro r g' hF p l e R s m args below meth c D ad cs A cells slots Z C E H locs ls hP hS hl
  obtain ⟨h1, rfl⟩ := h
  subst hL
  exact lv_istore_n C.1 C.2.1 h1 hi (LV_has hl) hn rfl (fun ls' h' => k r g' hF p l e R s m args below meth c D ad cs A cells slots Z C E H locs ls' hP hS (LV_set hl h'))
theorem aw_istore {i : Nat} (h : IN M pc (.istore i) 2 pc') (hn : i < M.2.2.1) (hL : setL L i (.inl x) = L') (k : aw M X pc' L' st g F) : aw M X pc L (.inl x :: st) g F := by
  intro r g' hF p l e R s m args below meth c D ad cs A cells slots Z C E H locs ls hP hS hl
  obtain ⟨h1, rfl⟩ := h
  subst hL
  exact lv_istore C.1 C.2.1 h1 (LV_has hl) hn rfl (fun ls' h' => k r g' hF p l e R s m args below meth c D ad cs A cells slots Z C E H locs ls' hP hS (LV_set hl h'))
theorem aw_iinc {i : Nat} {n : Int} (h : IN M pc (.iinc i n) 3 pc') (hv : nth L i = some (.inl x)) (hx : x + Int32.ofInt n = v) (hn : i < M.2.2.1) (hL : setL L i (.inl v) = L') (k : aw M X pc' L' st g F) : aw M X pc L st g F := by
  intro r g' hF p l e R s m args below meth c D ad cs A cells slots Z C E H locs ls hP hS hl
  obtain ⟨h1, rfl⟩ := h
  subst hL
  obtain ⟨j, hj⟩ := LV_place (ad := ad) hv
  exact lv_iinc C.1 C.2.1 h1 (LV_has hl) hj hx hn rfl (fun ls' h' => k r g' hF p l e R s m args below meth c D ad cs A cells slots Z C E H locs ls' hP hS (LV_set hl h'))
theorem aw_dup {a : AV} (h : IN M pc .dup 1 pc') (k : aw M X pc' L (a :: a :: st) g F) : aw M X pc L (a :: st) g F := by
  intro r g' hF p l e R s m args below meth c D ad cs A cells slots Z C E H locs ls hP hS hl
  obtain ⟨h1, rfl⟩ := h
  exact lv_dup C.1 C.2.1 h1 (cv_cat ad a) (k r g' hF p l e R s m args below meth c D ad cs A cells slots Z C E H locs ls hP hS hl)
theorem aw_dup2 {a b : AV} (h : IN M pc .dup2 1 pc') (k : aw M X pc' L (a :: b :: a :: b :: st) g F) : aw M X pc L (a :: b :: st) g F := by
  intro r g' hF p l e R s m args below meth c D ad cs A cells slots Z C E H locs ls hP hS hl
  obtain ⟨h1, rfl⟩ := h
  exact lv_dup2_11 C.1 C.2.1 h1 (cv_cat ad a) (cv_cat ad b) (k r g' hF p l e R s m args below meth c D ad cs A cells slots Z C E H locs ls hP hS hl)
theorem aw_pop {a : AV} (h : IN M pc .pop 1 pc') (k : aw M X pc' L st g F) : aw M X pc L (a :: st) g F := by
  intro r g' hF p l e R s m args below meth c D ad cs A cells slots Z C E H locs ls hP hS hl
  obtain ⟨h1, rfl⟩ := h
  exact lv_pop C.1 C.2.1 h1 (cv_cat ad a) (k r g' hF p l e R s m args below meth c D ad cs A cells slots Z C E H locs ls hP hS hl)
theorem aw_icmp_eq {off : Int} (h : BR M pc (.if_icmp .eq off) pc' tgt off) (kt : aw M X tgt L st g F1) (kf : aw M X pc' L st g F2) : aw M X pc L (.inl y :: .inl x :: st) g (if x = y then F1 else F2) := by
  intro r g' hF p l e R s m args below meth c D ad cs A cells slots Z C E H locs ls hP hS hl
  obtain ⟨h1, rfl, h2⟩ := h
  exact lv_icmp_eq C.1 C.2.1 h1 h2 (fun hc => (kt r g' (by rw [if_pos hc] at hF; exact hF) p l e R s m args below meth c D ad cs A cells slots Z C E H locs ls hP hS hl)) (fun hc => (kf r g' (by rw [if_neg hc] at hF; exact hF) p l e R s m args below meth c D ad cs A cells slots Z C E H locs ls hP hS hl))
theorem aw_if_eq {off : Int} (h : BR M pc (.ifCond .eq off) pc' tgt off) (kt : aw M X tgt L st g F1) (kf : aw M X pc' L st g F2) : aw M X pc L (.inl x :: st) g (if x = 0 then F1 else F2) := by
  intro r g' hF p l e R s m args below meth c D ad cs A cells slots Z C E H locs ls hP hS hl
  obtain ⟨h1, rfl, h2⟩ := h
  exact lv_if_eq C.1 C.2.1 h1 h2 (fun hc => (kt r g' (by rw [if_pos hc] at hF; exact hF) p l e R s m args below meth c D ad cs A cells slots Z C E H locs ls hP hS hl)) (fun hc => (kf r g' (by rw [if_neg hc] at hF; exact hF) p l e R s m args below meth c D ad cs A cells slots Z C E H locs ls hP hS hl))
theorem aw_icmp_ne {off : Int} (h : BR M pc (.if_icmp .ne off) pc' tgt off) (kf : aw M X pc' L st g F1) (kt : aw M X tgt L st g F2) : aw M X pc L (.inl y :: .inl x :: st) g (if x = y then F1 else F2) := by
  intro r g' hF p l e R s m args below meth c D ad cs A cells slots Z C E H locs ls hP hS hl
  obtain ⟨h1, rfl, h2⟩ := h
  exact lv_icmp_ne C.1 C.2.1 h1 h2 (fun hc => (kt r g' (by rw [if_neg hc] at hF; exact hF) p l e R s m args below meth c D ad cs A cells slots Z C E H locs ls hP hS hl)) (fun hc => (kf r g' (by rw [if_pos hc] at hF; exact hF) p l e R s m args below meth c D ad cs A cells slots Z C E H locs ls hP hS hl))
theorem aw_if_ne {off : Int} (h : BR M pc (.ifCond .ne off) pc' tgt off) (kf : aw M X pc' L st g F1) (kt : aw M X tgt L st g F2) : aw M X pc L (.inl x :: st) g (if x = 0 then F1 else F2) := by
  intro r g' hF p l e R s m args below meth c D ad cs A cells slots Z C E H locs ls hP hS hl
  obtain ⟨h1, rfl, h2⟩ := h
  exact lv_if_ne C.1 C.2.1 h1 h2 (fun hc => (kt r g' (by rw [if_neg hc] at hF; exact hF) p l e R s m args below meth c D ad cs A cells slots Z C E H locs ls hP hS hl)) (fun hc => (kf r g' (by rw [if_pos hc] at hF; exact hF) p l e R s m args below meth c D ad cs A cells slots Z C E H locs ls hP hS hl))
theorem aw_icmp_lt {off : Int} (h : BR M pc (.if_icmp .lt off) pc' tgt off) (kt : aw M X tgt L st g F1) (kf : aw M X pc' L st g F2) : aw M X pc L (.inl y :: .inl x :: st) g (if x < y then F1 else F2) := by
  intro r g' hF p l e R s m args below meth c D ad cs A cells slots Z C E H locs ls hP hS hl
  obtain ⟨h1, rfl, h2⟩ := h
  exact lv_icmp_lt C.1 C.2.1 h1 h2 (fun hc => (kt r g' (by rw [if_pos hc] at hF; exact hF) p l e R s m args below meth c D ad cs A cells slots Z C E H locs ls hP hS hl)) (fun hc => (kf r g' (by rw [if_neg hc] at hF; exact hF) p l e R s m args below meth c D ad cs A cells slots Z C E H locs ls hP hS hl))
theorem aw_if_lt {off : Int} (h : BR M pc (.ifCond .lt off) pc' tgt off) (kt : aw M X tgt L st g F1) (kf : aw M X pc' L st g F2) : aw M X pc L (.inl x :: st) g (if x < 0 then F1 else F2) := by
  intro r g' hF p l e R s m args below meth c D ad cs A cells slots Z C E H locs ls hP hS hl
  obtain ⟨h1, rfl, h2⟩ := h
  exact lv_if_lt C.1 C.2.1 h1 h2 (fun hc => (kt r g' (by rw [if_pos hc] at hF; exact hF) p l e R s m args below meth c D ad cs A cells slots Z C E H locs ls hP hS hl)) (fun hc => (kf r g' (by rw [if_neg hc] at hF; exact hF) p l e R s m args below meth c D ad cs A cells slots Z C E H locs ls hP hS hl))
theorem aw_icmp_ge {off : Int} (h : BR M pc (.if_icmp .ge off) pc' tgt off) (kt : aw M X tgt L st g F1) (kf : aw M X pc' L st g F2) : aw M X pc L (.inl y :: .inl x :: st) g (if y ≤ x then F1 else F2) := by
  intro r g' hF p l e R s m args below meth c D ad cs A cells slots Z C E H locs ls hP hS hl
  obtain ⟨h1, rfl, h2⟩ := h
  exact lv_icmp_ge C.1 C.2.1 h1 h2 (fun hc => (kt r g' (by rw [if_pos hc] at hF; exact hF) p l e R s m args below meth c D ad cs A cells slots Z C E H locs ls hP hS hl)) (fun hc => (kf r g' (by rw [if_neg hc] at hF; exact hF) p l e R s m args below meth c D ad cs A cells slots Z C E H locs ls hP hS hl))
theorem aw_if_ge {off : Int} (h : BR M pc (.ifCond .ge off) pc' tgt off) (kt : aw M X tgt L st g F1) (kf : aw M X pc' L st g F2) : aw M X pc L (.inl x :: st) g (if 0 ≤ x then F1 else F2) := by
  intro r g' hF p l e R s m args below meth c D ad cs A cells slots Z C E H locs ls hP hS hl
  obtain ⟨h1, rfl, h2⟩ := h
  exact lv_if_ge C.1 C.2.1 h1 h2 (fun hc => (kt r g' (by rw [if_pos hc] at hF; exact hF) p l e R s m args below meth c D ad cs A cells slots Z C E H locs ls hP hS hl)) (fun hc => (kf r g' (by rw [if_neg hc] at hF; exact hF) p l e R s m args below meth c D ad cs A cells slots Z C E H locs ls hP hS hl))
theorem aw_icmp_gt {off : Int} (h : BR M pc (.if_icmp .gt off) pc' tgt off) (kt : aw M X tgt L st g F1) (kf : aw M X pc' L st g F2) : aw M X pc L (.inl y :: .inl x :: st) g (if y < x then F1 else F2) := by
  intro r g' hF p l e R s m args below meth c D ad cs A cells slots Z C E H locs ls hP hS hl
  obtain ⟨h1, rfl, h2⟩ := h
  exact lv_icmp_gt C.1 C.2.1 h1 h2 (fun hc => (kt r g' (by rw [if_pos hc] at hF; exact hF) p l e R s m args below meth c D ad cs A cells slots Z C E H locs ls hP hS hl)) (fun hc => (kf r g' (by rw [if_neg hc] at hF; exact hF) p l e R s m args below meth c D ad cs A cells slots Z C E H locs ls hP hS hl))
theorem aw_if_gt {off : Int} (h : BR M pc (.ifCond .gt off) pc' tgt off) (kt : aw M X tgt L st g F1) (kf : aw M X pc' L st g F2) : aw M X pc L (.inl x :: st) g (if 0 < x then F1 else F2) := by
  intro r g' hF p l e R s m args below meth c D ad cs A cells slots Z C E H locs ls hP hS hl
  obtain ⟨h1, rfl, h2⟩ := h
  exact lv_if_gt C.1 C.2.1 h1 h2 (fun hc => (kt r g' (by rw [if_pos hc] at hF; exact hF) p l e R s m args below meth c D ad cs A cells slots Z C E H locs ls hP hS hl)) (fun hc => (kf r g' (by rw [if_neg hc] at hF; exact hF) p l e R s m args below meth c D ad cs A cells slots Z C E H locs ls hP hS hl))
theorem aw_icmp_le {off : Int} (h : BR M pc (.if_icmp .le off) pc' tgt off) (kt : aw M X tgt L st g F1) (kf : aw M X pc' L st g F2) : aw M X pc L (.inl y :: .inl x :: st) g (if x ≤ y then F1 else F2) := by
  intro r g' hF p l e R s m args below meth c D ad cs A cells slots Z C E H locs ls hP hS hl
  obtain ⟨h1, rfl, h2⟩ := h
  exact lv_icmp_le C.1 C.2.1 h1 h2 (fun hc => (kt r g' (by rw [if_pos hc] at hF; exact hF) p l e R s m args below meth c D ad cs A cells slots Z C E H locs ls hP hS hl)) (fun hc => (kf r g' (by rw [if_neg hc] at hF; exact hF) p l e R s m args below meth c D ad cs A cells slots Z C E H locs ls hP hS hl))
theorem aw_if_le {off : Int} (h : BR M pc (.ifCond .le off) pc' tgt off) (kt : aw M X tgt L st g F1) (kf : aw M X pc' L st g F2) : aw M X pc L (.inl x :: st) g (if x ≤ 0 then F1 else F2) := by
  intro r g' hF p l e R s m args below meth c D ad cs A cells slots Z C E H locs ls hP hS hl
  obtain ⟨h1, rfl, h2⟩ := h
  exact lv_if_le C.1 C.2.1 h1 h2 (fun hc => (kt r g' (by rw [if_pos hc] at hF; exact hF) p l e R s m args below meth c D ad cs A cells slots Z C E H locs ls hP hS hl)) (fun hc => (kf r g' (by rw [if_neg hc] at hF; exact hF) p l e R s m args below meth c D ad cs A cells slots Z C E H locs ls hP hS hl))
theorem aw_goto {off : Int} (h : BR M pc (.goto off) pc' tgt off) (k : aw M X tgt L st g F) : aw M X pc L st g F := by
  intro r g' hF p l e R s m args below meth c D ad cs A cells slots Z C E H locs ls hP hS hl
  obtain ⟨h1, -, h2⟩ := h
  exact lv_goto C.1 C.2.1 h1 h2 (k r g' hF p l e R s m args below meth c D ad cs A cells slots Z C E H locs ls hP hS hl)
theorem aw_if_eq_T {off : Int} (h : BR M pc (.ifCond .eq off) pc' tgt off) (hc : x = 0) (kt : aw M X tgt L st g F) : aw M X pc L (.inl x :: st) g F := by
  intro r g' hF p l e R s m args below meth c D ad cs A cells slots Z C E H locs ls hP hS hl
  obtain ⟨h1, -, h2⟩ := h
  exact lv_if_eq C.1 C.2.1 h1 h2 (fun _ => (kt r g' hF p l e R s m args below meth c D ad cs A cells slots Z C E H locs ls hP hS hl)) (fun hn => absurd hc hn)
theorem aw_if_eq_F {off : Int} (h : BR M pc (.ifCond .eq off) pc' tgt off) (hc : ¬ x = 0) (kf : aw M X pc' L st g F) : aw M X pc L (.inl x :: st) g F := by
  intro r g' hF p l e R s m args below meth c D ad cs A cells slots Z C E H locs ls hP hS hl
  obtain ⟨h1, rfl, h2⟩ := h
  exact lv_if_eq C.1 C.2.1 h1 h2 (fun hn => absurd hn hc) (fun _ => (kf r g' hF p l e R s m args below meth c D ad cs A cells slots Z C E H locs ls hP hS hl))
theorem aw_if_ne_T {off : Int} (h : BR M pc (.ifCond .ne off) pc' tgt off) (hc : ¬ x = 0) (kt : aw M X tgt L st g F) : aw M X pc L (.inl x :: st) g F := by
  intro r g' hF p l e R s m args below meth c D ad cs A cells slots Z C E H locs ls hP hS hl
  obtain ⟨h1, -, h2⟩ := h
  exact lv_if_ne C.1 C.2.1 h1 h2 (fun _ => (kt r g' hF p l e R s m args below meth c D ad cs A cells slots Z C E H locs ls hP hS hl)) (fun hn => absurd hn hc)
theorem aw_if_ne_F {off : Int} (h : BR M pc (.ifCond .ne off) pc' tgt off) (hc : x = 0) (kf : aw M X pc' L st g F) : aw M X pc L (.inl x :: st) g F := by
  intro r g' hF p l e R s m args below meth c D ad cs A cells slots Z C E H locs ls hP hS hl
  obtain ⟨h1, rfl, h2⟩ := h
  exact lv_if_ne C.1 C.2.1 h1 h2 (fun hn => absurd hc hn) (fun _ => (kf r g' hF p l e R s m args below meth c D ad cs A cells slots Z C E H locs ls hP hS hl))
theorem aw_none : aw M X pc L st g none := fun r g' hF => by cases hF
theorem aw_lt {e : Int32} {G : Int32 → Option (Int32 × Mem)} (k : ∀ z : Int32, aw M X pc L (.inl z :: st) g (G z)) : aw M X pc L (.inl e :: st) g (lt e G) := k e
theorem aw_if {c : Prop} {i : Decidable c} (kt : c → aw M X pc L st g F1) (kf : ¬ c → aw M X pc L st g F2) : aw M X pc L st g (@ite _ c i F1 F2) := by
  by_cases hc : c
  · rw [if_pos hc]; exact kt hc
  · rw [if_neg hc]; exact kf hc
theorem aw_msk (bs : List Bool) (hL : msk bs L = L') (k : aw M X pc L' st g F) : aw M X pc L st g F := by
  intro r g' hF p l e R s m args below meth c D ad cs A cells slots Z C E H locs ls hP hS hl
  exact k r g' hF p l e R s m args below meth c D ad cs A cells slots Z C E H locs ls hP hS ⟨hl.1, hl.2.1, fun i w h => hl.2.2 i w (msk_nth bs (by rw [hL]; exact h))⟩
theorem aw_iret (h : IN M pc .ireturn 1 pc') (hr : M.2.2.2.1 = some .int) : aw M X pc L [.inl x] g (some (x, g)) := by
  intro r g' hF p l e R s m args below meth c D ad cs A cells slots Z C E H locs ls hP hS hl
  cases hF
  exact (E H locs ls pc hP hS).1 h.1 (by rw [hr]; exact fun q => by cases q) (fun q => by rw [hr] at q; cases q)
theorem aw_zret (h : IN M pc .ireturn 1 pc') (hr : M.2.2.2.1 = some .boolean) : aw M X pc L [.inl x] g (rz x g) := by
  intro r g' hF p l e R s m args below meth c D ad cs A cells slots Z C E H locs ls hP hS hl
  obtain ⟨hz, hF⟩ := rz_some hF
  cases hF
  exact (E H locs ls pc hP hS).1 h.1 (by rw [hr]; exact fun q => by cases q) (fun _ => hz)
theorem aw_zretK (h : IN M pc .ireturn 1 pc') (hr : M.2.2.2.1 = some .boolean) (hz : x = 0 ∨ x = 1) : aw M X pc L [.inl x] g (some (x, g)) := by
  intro r g' hF p l e R s m args below meth c D ad cs A cells slots Z C E H locs ls hP hS hl
  cases hF
  exact (E H locs ls pc hP hS).1 h.1 (by rw [hr]; exact fun q => by cases q) (fun _ => hz)
theorem aw_vret (h : IN M pc .return_ 1 pc') (hr : M.2.2.2.1 = none) : aw M X pc L [] g (some (0, g)) := by
  intro r g' hF p l e R s m args below meth c D ad cs A cells slots Z C E H locs ls hP hS hl
  cases hF
  exact (E H locs ls pc hP hS).2 h.1 hr rfl
theorem aw_getI {own : String} {idx ci i a : Nat} {rs : List (Option Nat)} (h : IN M pc (.getfield idx) 3 pc') (hf : FL M.1.cls idx ci i) (ha : a < 73) (hs : sh a = (0, ci, rs)) (hi : rs[i]? = some none) (k : aw M X pc' L (.inl (g a i) :: st) g F) : aw M X pc L (.inr a :: st) g F := by
  intro r g' hF p l e R s m args below meth c D ad cs A cells slots Z C E H locs ls hP hS hl
  obtain ⟨h1, rfl⟩ := h
  obtain ⟨C0, T, N, hc, hN, hin, hlk⟩ := hf
  exact va_get (v := .int (g a i)) C.1 C.2.1 C.2.2.2.2.1 hin C.2.2.2.1 C.2.2.2.2.2.1 hP a (WS_obj ha hs) hc i hN (C.2.2.2.2.1 _ hlk) (fun _ h9 => h9) (by rw [List.getElem?_mapIdx, hi]; rfl) h1 (k r g' hF p l e R s m args below meth c D ad cs A cells slots Z C E H locs ls hP hS hl)
theorem aw_getR {own : String} {idx ci i a b : Nat} {rs : List (Option Nat)} (h : IN M pc (.getfield idx) 3 pc') (hf : FL M.1.cls idx ci i) (ha : a < 73) (hs : sh a = (0, ci, rs)) (hi : rs[i]? = some (some b)) (k : aw M X pc' L (.inr b :: st) g F) : aw M X pc L (.inr a :: st) g F := by
  intro r g' hF p l e R s m args below meth c D ad cs A cells slots Z C E H locs ls hP hS hl
  obtain ⟨h1, rfl⟩ := h
  obtain ⟨C0, T, N, hc, hN, hin, hlk⟩ := hf
  exact va_get (v := .ref (ad b)) C.1 C.2.1 C.2.2.2.2.1 hin C.2.2.2.1 C.2.2.2.2.2.1 hP a (WS_obj ha hs) hc i hN (C.2.2.2.2.1 _ hlk) (fun _ h9 => h9) (by rw [List.getElem?_mapIdx, hi]; rfl) h1 (k r g' hF p l e R s m args below meth c D ad cs A cells slots Z C E H locs ls hP hS hl)
theorem aw_putI {idx ci i a : Nat} {rs : List (Option Nat)} {G : Mem → Option (Int32 × Mem)} (h : IN M pc (.putfield idx) 3 pc') (hf : FP M.1.cls idx ci i .int) (ha : a < 73) (hs : sh a = (0, ci, rs)) (hi : rs[i]? = some none) (k : ∀ g1, g1 = up g a i x → aw M X pc' L st g1 (G g1)) : aw M X pc L (.inl x :: .inr a :: st) g (pf g a i x G) := by
  intro r g' hF p l e R s m args below meth c D ad cs A cells slots Z C E H locs ls hP hS hl
  obtain ⟨h1, rfl⟩ := h
  obtain ⟨C0, T, N, ty0, hc, hN, hin, hlk, hty, hnm, hfin, hd⟩ := hf
  exact va_put (v := .int x) (ty := .int) C.1 C.2.1 C.2.2.2.2.1 hin ty0 hty hnm C.2.2.2.1 C.2.2.2.2.2.1 hP (AD_D C.2.2.2.2.2.2.1) hS a (WS_obj ha hs) hc i hN (C.2.2.2.2.1 _ hlk) (fun _ h9 => h9) hfin hd (rfl) (rfl) (by rw [List.length_mapIdx]; exact (List.getElem?_eq_some_iff.mp hi).1) h1 (fun H1 locs1 hP1 _ hS1 => k _ rfl r g' hF p l e R s m args below meth c D ad cs A cells slots Z C E H1 locs1 ls (by rw [WS_put ha hs hi] at hP1; exact hP1) hS1 hl)
theorem aw_putZ {idx ci i a : Nat} {rs : List (Option Nat)} {G : Mem → Option (Int32 × Mem)} (h : IN M pc (.putfield idx) 3 pc') (hf : FP M.1.cls idx ci i .boolean) (ha : a < 73) (hs : sh a = (0, ci, rs)) (hi : rs[i]? = some none) (k : ∀ g1, g1 = up g a i x → aw M X pc' L st g1 (G g1)) : aw M X pc L (.inl x :: .inr a :: st) g (pz g a i x G) := by
  intro r g' hF p l e R s m args below meth c D ad cs A cells slots Z C E H locs ls hP hS hl
  obtain ⟨hz, hF⟩ := rz_some' hF
  obtain ⟨h1, rfl⟩ := h
  obtain ⟨C0, T, N, ty0, hc, hN, hin, hlk, hty, hnm, hfin, hd⟩ := hf
  exact va_put (v := .int x) (ty := .boolean) C.1 C.2.1 C.2.2.2.2.1 hin ty0 hty hnm C.2.2.2.1 C.2.2.2.2.2.1 hP (AD_D C.2.2.2.2.2.2.1) hS a (WS_obj ha hs) hc i hN (C.2.2.2.2.1 _ hlk) (fun _ h9 => h9) hfin hd (nar_z hz) (fit_z hz) (by rw [List.length_mapIdx]; exact (List.getElem?_eq_some_iff.mp hi).1) h1 (fun H1 locs1 hP1 _ hS1 => k _ rfl r g' hF p l e R s m args below meth c D ad cs A cells slots Z C E H1 locs1 ls (by rw [WS_put ha hs hi] at hP1; exact hP1) hS1 hl)
theorem aw_iald {a n : Nat} {rs : List (Option Nat)} {G : Int32 → Option (Int32 × Mem)} (h : IN M pc .iaload 1 pc') (ha : a < 73) (hs : sh a = (1, n, rs)) (k : ∀ z : Int32, z = g a x.toNatClampNeg → aw M X pc' L (.inl z :: st) g (G z)) : aw M X pc L (.inl x :: .inr a :: st) g (al g a n x G) := by
  intro r g' hF p l e R s m args below meth c D ad cs A cells slots Z C E H locs ls hP hS hl
  obtain ⟨h1, rfl⟩ := h
  obtain ⟨hin, hF⟩ := al_some hF
  exact va_iald C.1 C.2.1 C.2.2.2.2.2.1 hP a 0 (WS_arr ha hs) rfl hin h1 (k _ rfl r g' hF p l e R s m args below meth c D ad cs A cells slots Z C E H locs ls hP hS hl)
theorem aw_iast {a n : Nat} {rs : List (Option Nat)} {G : Mem → Option (Int32 × Mem)} (h : IN M pc .iastore 1 pc') (ha : a < 73) (hs : sh a = (1, n, rs)) (k : ∀ g1, g1 = up g a x.toNatClampNeg v → aw M X pc' L st g1 (G g1)) : aw M X pc L (.inl v :: .inl x :: .inr a :: st) g (as_ g a n x v G) := by
  intro r g' hF p l e R s m args below meth c D ad cs A cells slots Z C E H locs ls hP hS hl
  obtain ⟨h1, rfl⟩ := h
  obtain ⟨hin, hF⟩ := as_some hF
  exact va_iast C.1 C.2.1 C.2.2.2.2.2.1 hP (AD_D C.2.2.2.2.2.2.1) hS a 0 (WS_arr ha hs) rfl hin h1 (fun H1 locs1 hP1 _ hS1 => k _ rfl r g' hF p l e R s m args below meth c D ad cs A cells slots Z C E H1 locs1 ls (by rw [WS_ast ha hs] at hP1; exact hP1) hS1 hl)
theorem aw_zald {a n : Nat} {rs : List (Option Nat)} {G : Int32 → Option (Int32 × Mem)} (h : IN M pc .baload 1 pc') (ha : a < 73) (hs : sh a = (2, n, rs)) (k : ∀ z : Int32, z = g a x.toNatClampNeg → aw M X pc' L (.inl z :: st) g (G z)) : aw M X pc L (.inl x :: .inr a :: st) g (al g a n x G) := by
  intro r g' hF p l e R s m args below meth c D ad cs A cells slots Z C E H locs ls hP hS hl
  obtain ⟨h1, rfl⟩ := h
  obtain ⟨hin, hF⟩ := al_some hF
  exact va_zald C.1 C.2.1 C.2.2.2.2.2.1 hP a 1 (WS_arz ha hs) rfl hin h1 (k _ rfl r g' hF p l e R s m args below meth c D ad cs A cells slots Z C E H locs ls hP hS hl)
theorem aw_zast {a n : Nat} {rs : List (Option Nat)} {G : Mem → Option (Int32 × Mem)} (h : IN M pc .bastore 1 pc') (ha : a < 73) (hs : sh a = (2, n, rs)) (hv : vp_nar .boolean v = v) (k : ∀ g1, g1 = up g a x.toNatClampNeg v → aw M X pc' L st g1 (G g1)) : aw M X pc L (.inl v :: .inl x :: .inr a :: st) g (as_ g a n x v G) := by
  intro r g' hF p l e R s m args below meth c D ad cs A cells slots Z C E H locs ls hP hS hl
  obtain ⟨h1, rfl⟩ := h
  obtain ⟨hin, hF⟩ := as_some hF
  exact va_zast C.1 C.2.1 C.2.2.2.2.2.1 hP (AD_D C.2.2.2.2.2.2.1) hS a 1 (WS_arz ha hs) rfl hin h1 (fun H1 locs1 hP1 _ hS1 => k _ rfl r g' hF p l e R s m args below meth c D ad cs A cells slots Z C E H1 locs1 ls (by rw [hv, WS_asz ha hs] at hP1; exact hP1) hS1 hl)
theorem aw_alen {a n : Nat} {rs : List (Option Nat)} (h : IN M pc .arraylength 1 pc') (ha : a < 73) (hs : sh a = (1, n, rs)) (hv : Int32.ofNat n = v) (k : aw M X pc' L (.inl v :: st) g F) : aw M X pc L (.inr a :: st) g F := by
  intro r g' hF p l e R s m args below meth c D ad cs A cells slots Z C E H locs ls hP hS hl
  obtain ⟨h1, rfl⟩ := h
  exact va_alen C.1 C.2.1 C.2.2.2.2.2.1 hP a 0 (WS_arr ha hs) rfl hv h1 (k r g' hF p l e R s m args below meth c D ad cs A cells slots Z C E H locs ls hP hS hl)
theorem aw_aald {a b0 b1 : Nat} {F1 F2 : Option (Int32 × Mem)} (h : IN M pc .aaload 1 pc') (ha : a < 73) (hs : sh a = (3, 2, [some b0, some b1])) (k0 : aw M X pc' L (.inr b0 :: st) g F1) (k1 : aw M X pc' L (.inr b1 :: st) g F2) : aw M X pc L (.inl x :: .inr a :: st) g (r2 x F1 F2) := by
  intro r g' hF p l e R s m args below meth c D ad cs A cells slots Z C E H locs ls hP hS hl
  obtain ⟨h1, rfl⟩ := h
  rcases r2_some hF with ⟨rfl, hF⟩ | ⟨rfl, hF⟩
  · exact va_aldq C.1 C.2.1 C.2.2.2.2.2.1 hP a 2 (WS_arq ha hs) rfl (by unfold vp_in; decide) h1 (k0 r g' hF p l e R s m args below meth c D ad cs A cells slots Z C E H locs ls hP hS hl)
  · exact va_aldq C.1 C.2.1 C.2.2.2.2.2.1 hP a 2 (WS_arq ha hs) rfl (by unfold vp_in; decide) h1 (k1 r g' hF p l e R s m args below meth c D ad cs A cells slots Z C E H locs ls hP hS hl)
theorem aw_sld {n : Nat} {f : Nat → Int32} {G : Int32 → Option (Int32 × Mem)} (h : IN M pc .iaload 1 pc') (hX : X = some (n, f)) (k : ∀ z : Int32, z = f x.toNatClampNeg → aw M X pc' L (.inl z :: st) g (G z)) : aw M X pc L (.inl x :: .inr 73 :: st) g (sl f n x G) := by
  intro r g' hF p l e R s m args below meth c D ad cs A cells slots Z C E H locs ls hP hS hl
  obtain ⟨h1, rfl⟩ := h
  obtain ⟨hin, hF⟩ := sl_some hF
  obtain ⟨q1, q2, q3⟩ := C.2.2.2.2.2.2.2.2.2 _ hX
  exact va_sld C.1 C.2.1 q1 q2 q3 hS hin h1 (k _ rfl r g' hF p l e R s m args below meth c D ad cs A cells slots Z C E H locs ls hP hS hl)
theorem aw_slen {n : Nat} {f : Nat → Int32} (h : IN M pc .arraylength 1 pc') (hX : X = some (n, f)) (k : aw M X pc' L (.inl (Int32.ofNat n) :: st) g F) : aw M X pc L (.inr 73 :: st) g F := by
  intro r g' hF p l e R s m args below meth c D ad cs A cells slots Z C E H locs ls hP hS hl
  obtain ⟨h1, rfl⟩ := h
  obtain ⟨q1, q2, q3⟩ := C.2.2.2.2.2.2.2.2.2 _ hX
  exact va_slen C.1 C.2.1 q1 q2 q3 hS h1 (k r g' hF p l e R s m args below meth c D ad cs A cells slots Z C E H locs ls hP hS hl)
theorem aw_mmax {idx : Nat} (h : IN M pc (.invokestatic idx) 3 pc') (hm : MMx Lib.Math.max.name Lib.Math.max.code M.1.cls idx) (hr : 1 ≤ M.2.2.2.2.1 ∧ st.length + 13 ≤ M.2.2.2.2.2) (k : aw M X pc' L (.inl (mx x y) :: st) g F) : aw M X pc L (.inl y :: .inl x :: st) g F := by
  intro r g' hF p l e R s m args below meth c D ad cs A cells slots Z C E H locs ls hP hS hl
  obtain ⟨h1, rfl⟩ := h
  obtain ⟨m1, m2, m3, m4⟩ := hm
  obtain ⟨-, -, hml, hown, hts, -, -, -, ⟨r1, r2, r3, r4⟩, -⟩ := id C
  exact va_mmax C.1 C.2.1 (hml.trans hl.1.symm) hown (hts _ m1) (hts _ m2) (hts _ m3) (hts _ m4) (by rw [r1]; exact hr.1) (by rw [r2, cat_sum]; exact hr.2) r3 r4 h1 (k r g' hF p l e R s m args below meth c D ad cs A cells slots Z C E H locs ls hP hS hl)
theorem aw_mmin {idx : Nat} (h : IN M pc (.invokestatic idx) 3 pc') (hm : MMx Lib.Math.min.name Lib.Math.min.code M.1.cls idx) (hr : 1 ≤ M.2.2.2.2.1 ∧ st.length + 13 ≤ M.2.2.2.2.2) (k : aw M X pc' L (.inl (mn x y) :: st) g F) : aw M X pc L (.inl y :: .inl x :: st) g F := by
  intro r g' hF p l e R s m args below meth c D ad cs A cells slots Z C E H locs ls hP hS hl
  obtain ⟨h1, rfl⟩ := h
  obtain ⟨m1, m2, m3, m4⟩ := hm
  obtain ⟨-, -, hml, hown, hts, -, -, -, ⟨r1, r2, r3, r4⟩, -⟩ := id C
  exact va_mmin C.1 C.2.1 (hml.trans hl.1.symm) hown (hts _ m1) (hts _ m2) (hts _ m3) (hts _ m4) (by rw [r1]; exact hr.1) (by rw [r2, cat_sum]; exact hr.2) r3 r4 h1 (k r g' hF p l e R s m args below meth c D ad cs A cells slots Z C E H locs ls hP hS hl)
theorem aw_acopy {idx a b n0 n1 : Nat} {rs rs' : List (Option Nat)} {sp dp n : Int32} {G : Mem → Option (Int32 × Mem)} (h : IN M pc (.invokestatic idx) 3 pc') (hm : MAc M.1.cls idx) (hr : 1 ≤ M.2.2.2.2.1 ∧ st.length + (nativeFrameWords "java/lang/System" "arraycopy" 5 + 11) ≤ M.2.2.2.2.2) (ha : a < 73) (hs : sh a = (1, n0, rs)) (hb : b < 73) (hsb : sh b = (1, n1, rs')) (k : ∀ g1, g1 = cpy g a sp.toNatClampNeg b dp.toNatClampNeg n.toNatClampNeg → aw M X pc' L st g1 (G g1)) : aw M X pc L (.inl n :: .inl dp :: .inr b :: .inl sp :: .inr a :: st) g (ac g a n0 sp b n1 dp n G) := by
  intro r g' hF p l e R s m args below meth c D ad cs A cells slots Z C E H locs ls hP hS hl
  obtain ⟨h1, rfl⟩ := h
  obtain ⟨⟨u1, u2, u3, u4, u5⟩, hF⟩ := ac_some hF
  obtain ⟨m1, m2, m3, m4⟩ := hm
  obtain ⟨-, -, hml, hown, hts, -, -, -, ⟨r1, r2, r3, r4⟩, -⟩ := id C
  exact va_copyi C.1 C.2.1 (hml.trans hl.1.symm) hown (hts _ m1) (hts _ m2) (hts _ m3) (hts _ m4) C.2.2.2.2.2.1 hP (AD_D C.2.2.2.2.2.2.1) hS a b 0 0 (WS_arr ha hs) (WS_arr hb hsb) rfl rfl rfl u1 u2 u3 u4 u5 (fun _ _ => rfl) (by rw [r1]; exact hr.1) (by rw [r2, cat_sum]; exact hr.2) h1 (fun H1 locs1 hP1 _ hS1 => k _ rfl r g' hF p l e R s m args below meth c D ad cs A cells slots Z C E H1 locs1 ls (by rw [WS_cpy hb hsb] at hP1; exact hP1) hS1 hl)
theorem call_pre {D : va_G} {ad : Nat → Nat} {cs : Nat → ClassId} {g : Mem} {sz : Nat} {av : List Value} : FrameBlind (va_Pc av (fun U => U.heap.size = sz ∧ va_P D vwCl (WS ad cs g) U.heap ∧ va_K D vwCl (TY cs) U ∧ AD (fun _ => True) ad)) := by
  intro a U gg mk q
  obtain ⟨q0, q1, qP, qK, qD⟩ := q
  exact ⟨q0, q1, qP, va_K.moved (u := U) (U := U.calling gg mk a) (Vm.Alike.refl U.vm) qK, qD⟩
theorem AD_true {A : Nat → Prop} {ad : Nat → Nat} (h : AD A ad) : AD (fun _ => True) ad := ⟨h.1, fun _ _ => trivial⟩
theorem aw_callV {idx n a : Nat} {As : List AV} {Fc : Option (Int32 × Mem)} {K : Int32 → Mem → Option (Int32 × Mem)} {ty : FieldType} (h : IN M pc (.invokevirtual idx) 3 pc') (hlk : Cond.methodLink M.1.cls idx M'.1 ∈ TW) (hm : MC M' n) (hv : MV M') (hty : M'.2.2.2.1 = some ty) (hk : RC a M'.1.cls) (hC : CT M' (.inr a :: As) g Fc) (hn : As.length = n) (hst : st.length ≤ 8) (hroom : M'.2.2.2.2.1 + 1 ≤ M.2.2.2.2.1 ∧ 8 + (M'.2.2.1 + 11) + M'.2.2.2.2.2 ≤ M.2.2.2.2.2) (k : ∀ (z : Int32) (g1 : Mem), aw M X pc' L (.inl z :: st) g1 (K z g1)) : aw M X pc L (pu As (.inr a :: st)) g (cl Fc K) := by
  intro r g' hF p l e R s m args below meth c D ad cs A cells slots Z C E H locs ls hP hS hl
  obtain ⟨h1, rfl⟩ := h
  obtain ⟨r1, g1, hc, hF⟩ := cl_some hF
  have hM := hC r1 g1 hc l D ad cs H.size
  obtain ⟨hx, hb, hml, hown, hts, hK, hAD, hA, ⟨R1, R2, R3, R4⟩, -⟩ := id C
  obtain ⟨c1, c2, c3, c4, c5⟩ := hm
  obtain ⟨k1, ci, rs, T, N, k2, k3⟩ := hk
  rw [hty] at hM
  have hG : GoodIn TW (wsV M.1.cls idx M'.1.cls M'.1 (Cond.code M'.1 M'.2.1 M'.2.2.1 (some ty) :: TW)) := lw_goodIn (fun _ h => h) _ (by
    intro w hw
    rw [hty] at c1
    simp only [wsV, List.mem_append, List.mem_cons, List.not_mem_nil, or_false] at hw
    rcases hw with (rfl | rfl | rfl | rfl) | rfl | hw
    · exact hlk
    · exact hv.1
    · exact hv.2
    · exact c2
    · exact c1
    · exact hw)
  rw [pu_map]
  refine va_calli (va_runV (As := As.map (cv ad)) (rest := st.map (cv ad)) ⟨hx, hb, hml, hown, hts⟩ hM (cwV n hts hG rfl rfl rfl ⟨rfl, c3, c4, c5⟩ ⟨by rw [R1]; exact hroom.1, by rw [R2]; exact hroom.2⟩) ⟨call_pre, va_recv hK hP k3 (WS_obj k1 k2), fun U hU hW => ⟨rfl, by rw [hU], by rw [hU]; exact hP, va_K.moved hW.alike hK, AD_true hAD⟩⟩ rfl (by rw [List.length_map]; exact hn) hl.1 rfl (lv_room (by rw [cat_sum]; exact hst)) h1 ⟨R3, R4⟩) hS (fun q _ h => AD_A hAD hS hA q h) (AD_A hAD hS hA) (fun r2 u t H1 locs1 ht hvm hw hB hz1 hk1 hS1 => ?_)
  subst hw
  rw [ht] at hB
  exact k r2 g1 r g' hF p l e R s m args below meth c D ad cs A cells slots Z C E H1 locs1 ls hB hS1 hl
theorem aw_callVv {idx n a : Nat} {As : List AV} {Fc : Option (Int32 × Mem)} {K : Int32 → Mem → Option (Int32 × Mem)} (h : IN M pc (.invokevirtual idx) 3 pc') (hlk : Cond.methodLink M.1.cls idx M'.1 ∈ TW) (hm : MC M' n) (hv : MV M') (hty : M'.2.2.2.1 = none) (hk : RC a M'.1.cls) (hC : CT M' (.inr a :: As) g Fc) (hn : As.length = n) (hst : st.length ≤ 8) (hroom : M'.2.2.2.2.1 + 1 ≤ M.2.2.2.2.1 ∧ 8 + (M'.2.2.1 + 11) + M'.2.2.2.2.2 ≤ M.2.2.2.2.2) (k : ∀ (z : Int32) (g1 : Mem), aw M X pc' L st g1 (K z g1)) : aw M X pc L (pu As (.inr a :: st)) g (cl Fc K) := by
  intro r g' hF p l e R s m args below meth c D ad cs A cells slots Z C E H locs ls hP hS hl
  obtain ⟨h1, rfl⟩ := h
  obtain ⟨r1, g1, hc, hF⟩ := cl_some hF
  have hM := hC r1 g1 hc l D ad cs H.size
  obtain ⟨hx, hb, hml, hown, hts, hK, hAD, hA, ⟨R1, R2, R3, R4⟩, -⟩ := id C
  obtain ⟨c1, c2, c3, c4, c5⟩ := hm
  obtain ⟨k1, ci, rs, T, N, k2, k3⟩ := hk
  rw [hty] at hM
  have hG : GoodIn TW (wsV M.1.cls idx M'.1.cls M'.1 (Cond.code M'.1 M'.2.1 M'.2.2.1 none :: TW)) := lw_goodIn (fun _ h => h) _ (by
    intro w hw
    rw [hty] at c1
    simp only [wsV, List.mem_append, List.mem_cons, List.not_mem_nil, or_false] at hw
    rcases hw with (rfl | rfl | rfl | rfl) | rfl | hw
    · exact hlk
    · exact hv.1
    · exact hv.2
    · exact c2
    · exact c1
    · exact hw)
  rw [pu_map]
  refine va_callv (va_runV (As := As.map (cv ad)) (rest := st.map (cv ad)) ⟨hx, hb, hml, hown, hts⟩ hM (cwV n hts hG rfl rfl rfl ⟨rfl, c3, c4, c5⟩ ⟨by rw [R1]; exact hroom.1, by rw [R2]; exact hroom.2⟩) ⟨call_pre, va_recv hK hP k3 (WS_obj k1 k2), fun U hU hW => ⟨rfl, by rw [hU], by rw [hU]; exact hP, va_K.moved hW.alike hK, AD_true hAD⟩⟩ rfl (by rw [List.length_map]; exact hn) hl.1 rfl (lv_room (by rw [cat_sum]; exact hst)) h1 ⟨R3, R4⟩) hS (fun q _ h => AD_A hAD hS hA q h) (AD_A hAD hS hA) (fun u t H1 locs1 ht hvm hw hB hz1 hk1 hS1 => ?_)
  rw [ht] at hB
  exact k r1 g1 r g' hF p l e R s m args below meth c D ad cs A cells slots Z C E H1 locs1 ls hB hS1 hl
theorem aw_callS {idx n : Nat} {As : List AV} {Fc : Option (Int32 × Mem)} {K : Int32 → Mem → Option (Int32 × Mem)} {ty : FieldType} (h : IN M pc (.invokestatic idx) 3 pc') (hlk : Cond.methodLink M.1.cls idx M'.1 ∈ TW) (hm : MC M' n) (hv : Cond.static M'.1 ∈ TW) (hty : M'.2.2.2.1 = some ty) (hC : CT M' As g Fc) (hn : As.length = n) (hst : st.length ≤ 8) (hroom : M'.2.2.2.2.1 + 1 ≤ M.2.2.2.2.1 ∧ 8 + (M'.2.2.1 + 11) + M'.2.2.2.2.2 ≤ M.2.2.2.2.2) (k : ∀ (z : Int32) (g1 : Mem), aw M X pc' L (.inl z :: st) g1 (K z g1)) : aw M X pc L (pu As st) g (cl Fc K) := by
  intro r g' hF p l e R s m args below meth c D ad cs A cells slots Z C E H locs ls hP hS hl
  obtain ⟨h1, rfl⟩ := h
  obtain ⟨r1, g1, hc, hF⟩ := cl_some hF
  have hM := hC r1 g1 hc l D ad cs H.size
  obtain ⟨hx, hb, hml, hown, hts, hK, hAD, hA, ⟨R1, R2, R3, R4⟩, -⟩ := id C
  obtain ⟨c1, c2, c3, c4, c5⟩ := hm
  rw [hty] at hM
  have hG : GoodIn TW (va_wsS M.1.cls idx M'.1 (Cond.code M'.1 M'.2.1 M'.2.2.1 (some ty) :: TW)) := lw_goodIn (fun _ h => h) _ (by
    intro w hw
    rw [hty] at c1
    simp only [va_wsS, List.mem_append, List.mem_cons, List.not_mem_nil, or_false] at hw
    rcases hw with (rfl | rfl | rfl) | rfl | hw
    · exact hlk
    · exact hv
    · exact c2
    · exact c1
    · exact hw)
  rw [pu_map]
  refine va_calli (va_runS (As := As.map (cv ad)) (rest := st.map (cv ad)) ⟨hx, hb, hml, hown, hts⟩ hM (va_cwS n hts hG rfl rfl rfl ⟨c3, c4, c5⟩ ⟨by rw [R1]; exact hroom.1, by rw [R2]; exact hroom.2⟩) ⟨call_pre, fun U hU hW => ⟨rfl, by rw [hU], by rw [hU]; exact hP, va_K.moved hW.alike hK, AD_true hAD⟩⟩ rfl (by rw [List.length_map]; exact hn) hl.1 rfl (lv_room (by rw [cat_sum]; exact hst)) h1 ⟨R3, R4⟩) hS (fun q _ h => AD_A hAD hS hA q h) (AD_A hAD hS hA) (fun r2 u t H1 locs1 ht hvm hw hB hz1 hk1 hS1 => ?_)
  subst hw
  rw [ht] at hB
  exact k r2 g1 r g' hF p l e R s m args below meth c D ad cs A cells slots Z C E H1 locs1 ls hB hS1 hl
theorem aw_callSv {idx n : Nat} {As : List AV} {Fc : Option (Int32 × Mem)} {K : Int32 → Mem → Option (Int32 × Mem)} (h : IN M pc (.invokestatic idx) 3 pc') (hlk : Cond.methodLink M.1.cls idx M'.1 ∈ TW) (hm : MC M' n) (hv : Cond.static M'.1 ∈ TW) (hty : M'.2.2.2.1 = none) (hC : CT M' As g Fc) (hn : As.length = n) (hst : st.length ≤ 8) (hroom : M'.2.2.2.2.1 + 1 ≤ M.2.2.2.2.1 ∧ 8 + (M'.2.2.1 + 11) + M'.2.2.2.2.2 ≤ M.2.2.2.2.2) (k : ∀ (z : Int32) (g1 : Mem), aw M X pc' L st g1 (K z g1)) : aw M X pc L (pu As st) g (cl Fc K) := by
  intro r g' hF p l e R s m args below meth c D ad cs A cells slots Z C E H locs ls hP hS hl
  obtain ⟨h1, rfl⟩ := h
  obtain ⟨r1, g1, hc, hF⟩ := cl_some hF
  have hM := hC r1 g1 hc l D ad cs H.size
  obtain ⟨hx, hb, hml, hown, hts, hK, hAD, hA, ⟨R1, R2, R3, R4⟩, -⟩ := id C
  obtain ⟨c1, c2, c3, c4, c5⟩ := hm
  rw [hty] at hM
  have hG : GoodIn TW (va_wsS M.1.cls idx M'.1 (Cond.code M'.1 M'.2.1 M'.2.2.1 none :: TW)) := lw_goodIn (fun _ h => h) _ (by
    intro w hw
    rw [hty] at c1
    simp only [va_wsS, List.mem_append, List.mem_cons, List.not_mem_nil, or_false] at hw
    rcases hw with (rfl | rfl | rfl) | rfl | hw
    · exact hlk
    · exact hv
    · exact c2
    · exact c1
    · exact hw)
  rw [pu_map]
  refine va_callv (va_runS (As := As.map (cv ad)) (rest := st.map (cv ad)) ⟨hx, hb, hml, hown, hts⟩ hM (va_cwS n hts hG rfl rfl rfl ⟨c3, c4, c5⟩ ⟨by rw [R1]; exact hroom.1, by rw [R2]; exact hroom.2⟩) ⟨call_pre, fun U hU hW => ⟨rfl, by rw [hU], by rw [hU]; exact hP, va_K.moved hW.alike hK, AD_true hAD⟩⟩ rfl (by rw [List.length_map]; exact hn) hl.1 rfl (lv_room (by rw [cat_sum]; exact hst)) h1 ⟨R3, R4⟩) hS (fun q _ h => AD_A hAD hS hA q h) (AD_A hAD hS hA) (fun u t H1 locs1 ht hvm hw hB hz1 hk1 hS1 => ?_)
  rw [ht] at hB
  exact k r1 g1 r g' hF p l e R s m args below meth c D ad cs A cells slots Z C E H1 locs1 ls hB hS1 hl
/-- a walk from the entry gives the contract -/
def lsl : List AV → Nat → List (Option AV)
  | as, 0 => as.map some
  | as, n => as.map some ++ List.replicate (n - as.length) none
theorem nth_args {As : List AV} {k : Nat} {w : AV} {n : Nat} (h : nth (As.map some ++ List.replicate n none) k = some w) : As[k]? = some w := by
  induction As generalizing k with
  | nil =>
    exfalso
    induction n generalizing k with
    | zero => cases h
    | succ n ih => cases k with
      | zero => cases h
      | succ k => exact ih h
  | cons a t ih =>
    cases k with
    | zero => exact h
    | succ k => simpa using ih h
theorem args_at (ad : Nat → Nat) (As : List AV) : ∀ (j k : Nat) (w : AV), As[k]? = some w → (j + k, cv ad w) ∈ lv_args j (As.map (cv ad)) := by
  induction As with
  | nil => intro j k w h; cases k <;> cases h
  | cons a t ih =>
    intro j k w h
    have hc : lv_args j ((a :: t).map (cv ad)) = (j, cv ad a) :: lv_args (j + 1) (t.map (cv ad)) := by
      cases a <;> rfl
    rw [hc]
    cases k with
    | zero => cases h; exact List.mem_cons_self
    | succ k =>
      refine List.mem_cons_of_mem _ ?_
      have := ih (j + 1) k w (by simpa using h)
      rw [show j + (k + 1) = j + 1 + k by omega]
      exact this
theorem sl_len (ad : Nat → Nat) (As : List AV) : (lg_sl (As.map (cv ad))).length = As.length := by
  induction As with
  | nil => rfl
  | cons a t ih =>
    have hc : lg_sl ((a :: t).map (cv ad)) = Slot.val (cv ad a) :: lg_sl (t.map (cv ad)) := by cases a <;> rfl
    rw [hc, List.length_cons, ih, List.length_cons]
theorem CT.of {As : List AV} {nr : Nat} (hy : plainName M.1.cls = true) (hnL : As.length ≤ M.2.2.1) (hret : M.2.2.2.1 = none ∨ M.2.2.2.1 = some .int ∨ M.2.2.2.1 = some .boolean) (k : aw M none 0 (As.map some ++ List.replicate nr none) [] g F) : CT M As g F := by
  intro r g' hF l D ad cs sz
  refine Met.ofW (cc := M.2.1) (maxL := M.2.2.1) (ret := M.2.2.2.1) hy rfl ?_
  intro p e s m args below meth c s₁ B hml hv
  obtain ⟨rfl, hsz, hP, hK, hD0⟩ := hv
  have hx := B.exec
  have hb := B.bytes
  have hr := B.returns
  have hts := atoms_spec (ws := Cond.code M.1 M.2.1 M.2.2.1 M.2.2.2.1 :: TW) B.pre
  have hown : s.vm.findClass M.1.cls = some m.cls := findClass_of_methodNamed B.named
  have hlocks := B.notSynchronized
  subst hsz
  have hAD : AD (va_A (WS ad cs g) s.heap.size) ad := ⟨hD0.1, fun q h => Or.inl ⟨q, _, WS_get h⟩⟩
  have hl := lv_entry (As.map (cv ad)) (n := M.2.2.1) (by rw [sl_len]; exact hnL)
  rw [lg_entry_eq]
  generalize (lg_sl (As.map (cv ad)) ++ List.replicate (M.2.2.1 - (lg_sl (As.map (cv ad))).length) Slot.unset).toArray = ls at hl ⊢
  have C : CX M none p (headSpec (Cond.code M.1 M.2.1 M.2.2.1 M.2.2.2.1 :: TW) { frames := M.2.2.2.2.1, cells := 0, slots := 0, locals := M.2.2.2.2.2 }).room s m (As.map (cv ad)).toArray c D ad cs (va_A (WS ad cs g) s.heap.size) 0 0 :=
    ⟨hx, hb, hml, hown, fun w h => hts w (List.mem_cons_of_mem _ h), hK, hAD, fun q h => Or.inr h, ⟨rfl, rfl, Nat.le_refl 0, Nat.le_refl 0⟩, fun q h => by cases h⟩
  refine k r g' hF p l e _ s m _ below meth c D ad cs _ 0 0 _ C ?_ s.heap [] ls hP va_S.rf ⟨hl.1, hl.2.1, fun i w hw => ?_⟩
  · intro H locs ls2 pc2 hP2 hS2
    refine ⟨fun hd hn hz => ?_, fun hd hn hr0 => ?_⟩
    · rcases hret with h0 | h0 | h0
      · exact absurd h0 hn
      · rw [h0]
        exact W.iret hx hb (by rw [hr, h0]) (fun t ht hW => ⟨⟨r, (), rfl, rfl, by show va_P D vwCl (WS ad cs g') t.heap; rw [ht]; exact hP2⟩, hS2.F ht⟩) hS2.2.2 hd hlocks
      · rw [h0]
        exact W.zret (ty := .boolean) hx hb (by rw [hr, h0]) (nar_z (hz h0)) (fun t ht hW => ⟨⟨r, (), rfl, rfl, by show va_P D vwCl (WS ad cs g') t.heap; rw [ht]; exact hP2⟩, hS2.F ht⟩) hS2.2.2 hd hlocks
    · rw [hn]
      exact W.vret hx hb (by rw [hr, hn]) (fun t ht hW => ⟨⟨(), rfl, hr0, by show va_P D vwCl (WS ad cs g') t.heap; rw [ht]; exact hP2⟩, hS2.F ht⟩) hS2.2.2 hd hlocks
  · have := args_at ad As 0 i w (nth_args hw)
    rw [Nat.zero_add] at this
    exact hl.2.2 _ this
end AWS
end
