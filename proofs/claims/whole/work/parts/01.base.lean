-- ===== PART A: goes FIRST, ahead of the names: the tables' words, and 'selects' of the private methods out of them =====
/-- a private method of a class that the tables say can be made, by its rows of tables_1 -/
def lw_okq (q : MethodName × Nat) : Prop := (q.1.cls ≠ "java/lang/invoke/MethodHandle" ∧ q.1.cls ≠ "java/lang/invoke/VarHandle") ∧ Cond.instantiable q.1.cls q.2 ∈ tables_1 ∧ Cond.privateMethod q.1 ∈ tables_1 ∧ Cond.instanceMethod q.1 ∈ tables_1
theorem lw_p0 : lw_okq (⟨"ConstraintText$Reader", "takeWord", "()V"⟩, 8) := ⟨⟨by decide +kernel, by decide +kernel⟩, List.mem_of_getElem? (i := 28) (by decide +kernel), List.mem_of_getElem? (i := 239) (by decide +kernel), List.mem_of_getElem? (i := 240) (by decide +kernel)⟩
theorem lw_p1 : lw_okq (⟨"ConstraintText$Reader", "takeRow", "()Z"⟩, 8) := ⟨⟨by decide +kernel, by decide +kernel⟩, List.mem_of_getElem? (i := 28) (by decide +kernel), List.mem_of_getElem? (i := 250) (by decide +kernel), List.mem_of_getElem? (i := 251) (by decide +kernel)⟩
theorem lw_p2 : lw_okq (⟨"ConstraintText$Reader", "sortInHand", "()I"⟩, 8) := ⟨⟨by decide +kernel, by decide +kernel⟩, List.mem_of_getElem? (i := 28) (by decide +kernel), List.mem_of_getElem? (i := 254) (by decide +kernel), List.mem_of_getElem? (i := 255) (by decide +kernel)⟩
theorem lw_p3 : lw_okq (⟨"ConstraintText$Reader", "isInHand", "(Ljava/lang/String;)Z"⟩, 8) := ⟨⟨by decide +kernel, by decide +kernel⟩, List.mem_of_getElem? (i := 28) (by decide +kernel), List.mem_of_getElem? (i := 271) (by decide +kernel), List.mem_of_getElem? (i := 272) (by decide +kernel)⟩
theorem lw_p4 : lw_okq (⟨"ConstraintText$Reader", "printWord", "()V"⟩, 8) := ⟨⟨by decide +kernel, by decide +kernel⟩, List.mem_of_getElem? (i := 28) (by decide +kernel), List.mem_of_getElem? (i := 327) (by decide +kernel), List.mem_of_getElem? (i := 328) (by decide +kernel)⟩
theorem lw_p5 : lw_okq (⟨"ConstraintText$Reader", "takeNewClock", "()Z"⟩, 8) := ⟨⟨by decide +kernel, by decide +kernel⟩, List.mem_of_getElem? (i := 28) (by decide +kernel), List.mem_of_getElem? (i := 344) (by decide +kernel), List.mem_of_getElem? (i := 345) (by decide +kernel)⟩
theorem lw_p6 : lw_okq (⟨"ConstraintText$Reader", "isNameInHand", "()Z"⟩, 8) := ⟨⟨by decide +kernel, by decide +kernel⟩, List.mem_of_getElem? (i := 28) (by decide +kernel), List.mem_of_getElem? (i := 348) (by decide +kernel), List.mem_of_getElem? (i := 349) (by decide +kernel)⟩
theorem lw_p7 : lw_okq (⟨"ConstraintText$Reader", "clockNamed", "(II)I"⟩, 8) := ⟨⟨by decide +kernel, by decide +kernel⟩, List.mem_of_getElem? (i := 28) (by decide +kernel), List.mem_of_getElem? (i := 355) (by decide +kernel), List.mem_of_getElem? (i := 356) (by decide +kernel)⟩
theorem lw_p8 : lw_okq (⟨"ConstraintText$Reader", "isSameText", "(III)Z"⟩, 8) := ⟨⟨by decide +kernel, by decide +kernel⟩, List.mem_of_getElem? (i := 28) (by decide +kernel), List.mem_of_getElem? (i := 359) (by decide +kernel), List.mem_of_getElem? (i := 360) (by decide +kernel)⟩
theorem lw_p9 : lw_okq (⟨"ConstraintText$Reader", "takeTimes", "()Z"⟩, 8) := ⟨⟨by decide +kernel, by decide +kernel⟩, List.mem_of_getElem? (i := 28) (by decide +kernel), List.mem_of_getElem? (i := 367) (by decide +kernel), List.mem_of_getElem? (i := 368) (by decide +kernel)⟩
theorem lw_p10 : lw_okq (⟨"ConstraintText$Reader", "takeWhole", "(II)I"⟩, 8) := ⟨⟨by decide +kernel, by decide +kernel⟩, List.mem_of_getElem? (i := 28) (by decide +kernel), List.mem_of_getElem? (i := 372) (by decide +kernel), List.mem_of_getElem? (i := 373) (by decide +kernel)⟩
theorem lw_p11 : lw_okq (⟨"ConstraintText$Reader", "wholeInHand", "()I"⟩, 8) := ⟨⟨by decide +kernel, by decide +kernel⟩, List.mem_of_getElem? (i := 28) (by decide +kernel), List.mem_of_getElem? (i := 376) (by decide +kernel), List.mem_of_getElem? (i := 377) (by decide +kernel)⟩
theorem lw_p12 : lw_okq (⟨"ConstraintText$Reader", "takePattern", "(I)Z"⟩, 8) := ⟨⟨by decide +kernel, by decide +kernel⟩, List.mem_of_getElem? (i := 28) (by decide +kernel), List.mem_of_getElem? (i := 397) (by decide +kernel), List.mem_of_getElem? (i := 398) (by decide +kernel)⟩
theorem lw_p13 : lw_okq (⟨"ConstraintText$Reader", "keepPattern", "(I)Z"⟩, 8) := ⟨⟨by decide +kernel, by decide +kernel⟩, List.mem_of_getElem? (i := 28) (by decide +kernel), List.mem_of_getElem? (i := 401) (by decide +kernel), List.mem_of_getElem? (i := 402) (by decide +kernel)⟩
theorem lw_p14 : lw_okq (⟨"ConstraintText$Reader", "isPatternInHand", "()Z"⟩, 8) := ⟨⟨by decide +kernel, by decide +kernel⟩, List.mem_of_getElem? (i := 28) (by decide +kernel), List.mem_of_getElem? (i := 405) (by decide +kernel), List.mem_of_getElem? (i := 406) (by decide +kernel)⟩
theorem lw_p15 : lw_okq (⟨"ConstraintText$Sheet", "patternOf", "(II)I"⟩, 10) := ⟨⟨by decide +kernel, by decide +kernel⟩, List.mem_of_getElem? (i := 50) (by decide +kernel), List.mem_of_getElem? (i := 418) (by decide +kernel), List.mem_of_getElem? (i := 419) (by decide +kernel)⟩
def lw_privs_1 : List (MethodName × Nat) := [(⟨"ConstraintText$Reader", "takeWord", "()V"⟩, 8), (⟨"ConstraintText$Reader", "takeRow", "()Z"⟩, 8), (⟨"ConstraintText$Reader", "sortInHand", "()I"⟩, 8), (⟨"ConstraintText$Reader", "isInHand", "(Ljava/lang/String;)Z"⟩, 8), (⟨"ConstraintText$Reader", "printWord", "()V"⟩, 8), (⟨"ConstraintText$Reader", "takeNewClock", "()Z"⟩, 8), (⟨"ConstraintText$Reader", "isNameInHand", "()Z"⟩, 8), (⟨"ConstraintText$Reader", "clockNamed", "(II)I"⟩, 8), (⟨"ConstraintText$Reader", "isSameText", "(III)Z"⟩, 8), (⟨"ConstraintText$Reader", "takeTimes", "()Z"⟩, 8), (⟨"ConstraintText$Reader", "takeWhole", "(II)I"⟩, 8), (⟨"ConstraintText$Reader", "wholeInHand", "()I"⟩, 8), (⟨"ConstraintText$Reader", "takePattern", "(I)Z"⟩, 8), (⟨"ConstraintText$Reader", "keepPattern", "(I)Z"⟩, 8), (⟨"ConstraintText$Reader", "isPatternInHand", "()Z"⟩, 8), (⟨"ConstraintText$Sheet", "patternOf", "(II)I"⟩, 10)]
theorem lw_r1 : ∀ q ∈ lw_privs_1, lw_okq q := List.forall_mem_cons.mpr ⟨lw_p0, List.forall_mem_cons.mpr ⟨lw_p1, List.forall_mem_cons.mpr ⟨lw_p2, List.forall_mem_cons.mpr ⟨lw_p3, List.forall_mem_cons.mpr ⟨lw_p4, List.forall_mem_cons.mpr ⟨lw_p5, List.forall_mem_cons.mpr ⟨lw_p6, List.forall_mem_cons.mpr ⟨lw_p7, List.forall_mem_cons.mpr ⟨lw_p8, List.forall_mem_cons.mpr ⟨lw_p9, List.forall_mem_cons.mpr ⟨lw_p10, List.forall_mem_cons.mpr ⟨lw_p11, List.forall_mem_cons.mpr ⟨lw_p12, List.forall_mem_cons.mpr ⟨lw_p13, List.forall_mem_cons.mpr ⟨lw_p14, List.forall_mem_cons.mpr ⟨lw_p15, fun _ h => absurd h List.not_mem_nil⟩⟩⟩⟩⟩⟩⟩⟩⟩⟩⟩⟩⟩⟩⟩⟩
theorem lw_p16 : lw_okq (⟨"ConstraintText$Reader", "takeLink", "(I)Z"⟩, 8) := ⟨⟨by decide +kernel, by decide +kernel⟩, List.mem_of_getElem? (i := 28) (by decide +kernel), List.mem_of_getElem? (i := 422) (by decide +kernel), List.mem_of_getElem? (i := 423) (by decide +kernel)⟩
theorem lw_p17 : lw_okq (⟨"ConstraintText$Reader", "takeRatio", "(Z)Z"⟩, 8) := ⟨⟨by decide +kernel, by decide +kernel⟩, List.mem_of_getElem? (i := 28) (by decide +kernel), List.mem_of_getElem? (i := 426) (by decide +kernel), List.mem_of_getElem? (i := 427) (by decide +kernel)⟩
theorem lw_p18 : lw_okq (⟨"ConstraintText$Reader", "takePath", "()Z"⟩, 8) := ⟨⟨by decide +kernel, by decide +kernel⟩, List.mem_of_getElem? (i := 28) (by decide +kernel), List.mem_of_getElem? (i := 434) (by decide +kernel), List.mem_of_getElem? (i := 435) (by decide +kernel)⟩
theorem lw_p19 : lw_okq (⟨"ConstraintText$Reader", "isAnyInHand", "()Z"⟩, 8) := ⟨⟨by decide +kernel, by decide +kernel⟩, List.mem_of_getElem? (i := 28) (by decide +kernel), List.mem_of_getElem? (i := 438) (by decide +kernel), List.mem_of_getElem? (i := 439) (by decide +kernel)⟩
theorem lw_p20 : lw_okq (⟨"ConstraintText$Sheet", "hasPattern", "(II)Z"⟩, 10) := ⟨⟨by decide +kernel, by decide +kernel⟩, List.mem_of_getElem? (i := 50) (by decide +kernel), List.mem_of_getElem? (i := 446) (by decide +kernel), List.mem_of_getElem? (i := 447) (by decide +kernel)⟩
theorem lw_p21 : lw_okq (⟨"ConstraintText$Reader", "takeValue", "(II)Z"⟩, 8) := ⟨⟨by decide +kernel, by decide +kernel⟩, List.mem_of_getElem? (i := 28) (by decide +kernel), List.mem_of_getElem? (i := 450) (by decide +kernel), List.mem_of_getElem? (i := 451) (by decide +kernel)⟩
theorem lw_p22 : lw_okq (⟨"ConstraintText$Reader", "takeEnd", "()Z"⟩, 8) := ⟨⟨by decide +kernel, by decide +kernel⟩, List.mem_of_getElem? (i := 28) (by decide +kernel), List.mem_of_getElem? (i := 458) (by decide +kernel), List.mem_of_getElem? (i := 459) (by decide +kernel)⟩
theorem lw_p23 : lw_okq (⟨"ConstraintText$Reader", "bindLinks", "()Z"⟩, 8) := ⟨⟨by decide +kernel, by decide +kernel⟩, List.mem_of_getElem? (i := 28) (by decide +kernel), List.mem_of_getElem? (i := 462) (by decide +kernel), List.mem_of_getElem? (i := 463) (by decide +kernel)⟩
theorem lw_p24 : lw_okq (⟨"ConstraintText$Reader", "hasNoRing", "()Z"⟩, 8) := ⟨⟨by decide +kernel, by decide +kernel⟩, List.mem_of_getElem? (i := 28) (by decide +kernel), List.mem_of_getElem? (i := 470) (by decide +kernel), List.mem_of_getElem? (i := 471) (by decide +kernel)⟩
theorem lw_p25 : lw_okq (⟨"ConstraintText$Reader", "hasNoneGreat", "()Z"⟩, 8) := ⟨⟨by decide +kernel, by decide +kernel⟩, List.mem_of_getElem? (i := 28) (by decide +kernel), List.mem_of_getElem? (i := 478) (by decide +kernel), List.mem_of_getElem? (i := 479) (by decide +kernel)⟩
theorem lw_p26 : lw_okq (⟨"ConstraintText$ClockTable", "settle", "(II)V"⟩, 12) := ⟨⟨by decide +kernel, by decide +kernel⟩, List.mem_of_getElem? (i := 56) (by decide +kernel), List.mem_of_getElem? (i := 486) (by decide +kernel), List.mem_of_getElem? (i := 487) (by decide +kernel)⟩
theorem lw_p27 : lw_okq (⟨"ConstraintText$Sheet", "fits", "(ILConstraintText$Pins;I)Z"⟩, 10) := ⟨⟨by decide +kernel, by decide +kernel⟩, List.mem_of_getElem? (i := 50) (by decide +kernel), List.mem_of_getElem? (i := 507) (by decide +kernel), List.mem_of_getElem? (i := 508) (by decide +kernel)⟩
theorem lw_p28 : lw_okq (⟨"ConstraintText$Sheet", "reachedByStars", "(I)I"⟩, 10) := ⟨⟨by decide +kernel, by decide +kernel⟩, List.mem_of_getElem? (i := 50) (by decide +kernel), List.mem_of_getElem? (i := 518) (by decide +kernel), List.mem_of_getElem? (i := 519) (by decide +kernel)⟩
theorem lw_p29 : lw_okq (⟨"ConstraintText$Sheet", "reachedBy", "(III)I"⟩, 10) := ⟨⟨by decide +kernel, by decide +kernel⟩, List.mem_of_getElem? (i := 50) (by decide +kernel), List.mem_of_getElem? (i := 527) (by decide +kernel), List.mem_of_getElem? (i := 528) (by decide +kernel)⟩
theorem lw_p30 : lw_okq (⟨"java/lang/Throwable", "fillInStackTrace", "(I)Ljava/lang/Throwable;"⟩, 6) := ⟨⟨by decide +kernel, by decide +kernel⟩, List.mem_of_getElem? (i := 577) (by decide +kernel), List.mem_of_getElem? (i := 575) (by decide +kernel), List.mem_of_getElem? (i := 576) (by decide +kernel)⟩
theorem lw_p31 : lw_okq (⟨"ConstraintText$Sheet", "admits", "(III)Z"⟩, 10) := ⟨⟨by decide +kernel, by decide +kernel⟩, List.mem_of_getElem? (i := 50) (by decide +kernel), List.mem_of_getElem? (i := 688) (by decide +kernel), List.mem_of_getElem? (i := 689) (by decide +kernel)⟩
def lw_privs_2 : List (MethodName × Nat) := [(⟨"ConstraintText$Reader", "takeLink", "(I)Z"⟩, 8), (⟨"ConstraintText$Reader", "takeRatio", "(Z)Z"⟩, 8), (⟨"ConstraintText$Reader", "takePath", "()Z"⟩, 8), (⟨"ConstraintText$Reader", "isAnyInHand", "()Z"⟩, 8), (⟨"ConstraintText$Sheet", "hasPattern", "(II)Z"⟩, 10), (⟨"ConstraintText$Reader", "takeValue", "(II)Z"⟩, 8), (⟨"ConstraintText$Reader", "takeEnd", "()Z"⟩, 8), (⟨"ConstraintText$Reader", "bindLinks", "()Z"⟩, 8), (⟨"ConstraintText$Reader", "hasNoRing", "()Z"⟩, 8), (⟨"ConstraintText$Reader", "hasNoneGreat", "()Z"⟩, 8), (⟨"ConstraintText$ClockTable", "settle", "(II)V"⟩, 12), (⟨"ConstraintText$Sheet", "fits", "(ILConstraintText$Pins;I)Z"⟩, 10), (⟨"ConstraintText$Sheet", "reachedByStars", "(I)I"⟩, 10), (⟨"ConstraintText$Sheet", "reachedBy", "(III)I"⟩, 10), (⟨"java/lang/Throwable", "fillInStackTrace", "(I)Ljava/lang/Throwable;"⟩, 6), (⟨"ConstraintText$Sheet", "admits", "(III)Z"⟩, 10)]
theorem lw_r2 : ∀ q ∈ lw_privs_2, lw_okq q := List.forall_mem_cons.mpr ⟨lw_p16, List.forall_mem_cons.mpr ⟨lw_p17, List.forall_mem_cons.mpr ⟨lw_p18, List.forall_mem_cons.mpr ⟨lw_p19, List.forall_mem_cons.mpr ⟨lw_p20, List.forall_mem_cons.mpr ⟨lw_p21, List.forall_mem_cons.mpr ⟨lw_p22, List.forall_mem_cons.mpr ⟨lw_p23, List.forall_mem_cons.mpr ⟨lw_p24, List.forall_mem_cons.mpr ⟨lw_p25, List.forall_mem_cons.mpr ⟨lw_p26, List.forall_mem_cons.mpr ⟨lw_p27, List.forall_mem_cons.mpr ⟨lw_p28, List.forall_mem_cons.mpr ⟨lw_p29, List.forall_mem_cons.mpr ⟨lw_p30, List.forall_mem_cons.mpr ⟨lw_p31, fun _ h => absurd h List.not_mem_nil⟩⟩⟩⟩⟩⟩⟩⟩⟩⟩⟩⟩⟩⟩⟩⟩
theorem lw_p32 : lw_okq (⟨"ConstraintText$Sheet", "matches", "(III)Z"⟩, 10) := ⟨⟨by decide +kernel, by decide +kernel⟩, List.mem_of_getElem? (i := 50) (by decide +kernel), List.mem_of_getElem? (i := 692) (by decide +kernel), List.mem_of_getElem? (i := 693) (by decide +kernel)⟩
theorem lw_p33 : lw_okq (⟨"ConstraintText$Sheet", "weightOf", "(I)I"⟩, 10) := ⟨⟨by decide +kernel, by decide +kernel⟩, List.mem_of_getElem? (i := 50) (by decide +kernel), List.mem_of_getElem? (i := 697) (by decide +kernel), List.mem_of_getElem? (i := 698) (by decide +kernel)⟩
theorem lw_p34 : lw_okq (⟨"ConstraintText$Sheet", "isIdle", "(I)Z"⟩, 10) := ⟨⟨by decide +kernel, by decide +kernel⟩, List.mem_of_getElem? (i := 50) (by decide +kernel), List.mem_of_getElem? (i := 733) (by decide +kernel), List.mem_of_getElem? (i := 734) (by decide +kernel)⟩
theorem lw_p35 : lw_okq (⟨"ConstraintText$Sheet", "haveClash", "(II)Z"⟩, 10) := ⟨⟨by decide +kernel, by decide +kernel⟩, List.mem_of_getElem? (i := 50) (by decide +kernel), List.mem_of_getElem? (i := 749) (by decide +kernel), List.mem_of_getElem? (i := 750) (by decide +kernel)⟩
theorem lw_p36 : lw_okq (⟨"ConstraintTextModel", "next", "()V"⟩, 33) := ⟨⟨by decide +kernel, by decide +kernel⟩, List.mem_of_getElem? (i := 772) (by decide +kernel), List.mem_of_getElem? (i := 904) (by decide +kernel), List.mem_of_getElem? (i := 905) (by decide +kernel)⟩
theorem lw_p37 : lw_okq (⟨"ConstraintTextModel", "readRow", "()V"⟩, 33) := ⟨⟨by decide +kernel, by decide +kernel⟩, List.mem_of_getElem? (i := 772) (by decide +kernel), List.mem_of_getElem? (i := 908) (by decide +kernel), List.mem_of_getElem? (i := 909) (by decide +kernel)⟩
theorem lw_p38 : lw_okq (⟨"ConstraintTextModel", "wordName", "()J"⟩, 33) := ⟨⟨by decide +kernel, by decide +kernel⟩, List.mem_of_getElem? (i := 772) (by decide +kernel), List.mem_of_getElem? (i := 912) (by decide +kernel), List.mem_of_getElem? (i := 913) (by decide +kernel)⟩
theorem lw_p39 : lw_okq (⟨"ConstraintTextModel", "sortOf", "(J)I"⟩, 33) := ⟨⟨by decide +kernel, by decide +kernel⟩, List.mem_of_getElem? (i := 772) (by decide +kernel), List.mem_of_getElem? (i := 918) (by decide +kernel), List.mem_of_getElem? (i := 919) (by decide +kernel)⟩
theorem lw_p40 : lw_okq (⟨"ConstraintTextModel", "take", "(Z)V"⟩, 33) := ⟨⟨by decide +kernel, by decide +kernel⟩, List.mem_of_getElem? (i := 772) (by decide +kernel), List.mem_of_getElem? (i := 928) (by decide +kernel), List.mem_of_getElem? (i := 929) (by decide +kernel)⟩
theorem lw_p41 : lw_okq (⟨"ConstraintTextModel", "readClock", "(I)V"⟩, 33) := ⟨⟨by decide +kernel, by decide +kernel⟩, List.mem_of_getElem? (i := 772) (by decide +kernel), List.mem_of_getElem? (i := 932) (by decide +kernel), List.mem_of_getElem? (i := 933) (by decide +kernel)⟩
theorem lw_p42 : lw_okq (⟨"ConstraintTextModel", "takeNew", "(I)V"⟩, 33) := ⟨⟨by decide +kernel, by decide +kernel⟩, List.mem_of_getElem? (i := 772) (by decide +kernel), List.mem_of_getElem? (i := 936) (by decide +kernel), List.mem_of_getElem? (i := 937) (by decide +kernel)⟩
theorem lw_p43 : lw_okq (⟨"ConstraintTextModel", "clockOf", "(J)I"⟩, 33) := ⟨⟨by decide +kernel, by decide +kernel⟩, List.mem_of_getElem? (i := 772) (by decide +kernel), List.mem_of_getElem? (i := 940) (by decide +kernel), List.mem_of_getElem? (i := 941) (by decide +kernel)⟩
theorem lw_p44 : lw_okq (⟨"ConstraintTextModel", "takeWhole", "(II)I"⟩, 33) := ⟨⟨by decide +kernel, by decide +kernel⟩, List.mem_of_getElem? (i := 772) (by decide +kernel), List.mem_of_getElem? (i := 945) (by decide +kernel), List.mem_of_getElem? (i := 946) (by decide +kernel)⟩
theorem lw_p45 : lw_okq (⟨"ConstraintTextModel", "whole", "()I"⟩, 33) := ⟨⟨by decide +kernel, by decide +kernel⟩, List.mem_of_getElem? (i := 772) (by decide +kernel), List.mem_of_getElem? (i := 949) (by decide +kernel), List.mem_of_getElem? (i := 950) (by decide +kernel)⟩
theorem lw_p46 : lw_okq (⟨"ConstraintTextModel", "takePattern", "(IIZ)V"⟩, 33) := ⟨⟨by decide +kernel, by decide +kernel⟩, List.mem_of_getElem? (i := 772) (by decide +kernel), List.mem_of_getElem? (i := 953) (by decide +kernel), List.mem_of_getElem? (i := 954) (by decide +kernel)⟩
theorem lw_p47 : lw_okq (⟨"ConstraintTextModel", "isPattern", "()Z"⟩, 33) := ⟨⟨by decide +kernel, by decide +kernel⟩, List.mem_of_getElem? (i := 772) (by decide +kernel), List.mem_of_getElem? (i := 957) (by decide +kernel), List.mem_of_getElem? (i := 958) (by decide +kernel)⟩
def lw_privs_3 : List (MethodName × Nat) := [(⟨"ConstraintText$Sheet", "matches", "(III)Z"⟩, 10), (⟨"ConstraintText$Sheet", "weightOf", "(I)I"⟩, 10), (⟨"ConstraintText$Sheet", "isIdle", "(I)Z"⟩, 10), (⟨"ConstraintText$Sheet", "haveClash", "(II)Z"⟩, 10), (⟨"ConstraintTextModel", "next", "()V"⟩, 33), (⟨"ConstraintTextModel", "readRow", "()V"⟩, 33), (⟨"ConstraintTextModel", "wordName", "()J"⟩, 33), (⟨"ConstraintTextModel", "sortOf", "(J)I"⟩, 33), (⟨"ConstraintTextModel", "take", "(Z)V"⟩, 33), (⟨"ConstraintTextModel", "readClock", "(I)V"⟩, 33), (⟨"ConstraintTextModel", "takeNew", "(I)V"⟩, 33), (⟨"ConstraintTextModel", "clockOf", "(J)I"⟩, 33), (⟨"ConstraintTextModel", "takeWhole", "(II)I"⟩, 33), (⟨"ConstraintTextModel", "whole", "()I"⟩, 33), (⟨"ConstraintTextModel", "takePattern", "(IIZ)V"⟩, 33), (⟨"ConstraintTextModel", "isPattern", "()Z"⟩, 33)]
theorem lw_r3 : ∀ q ∈ lw_privs_3, lw_okq q := List.forall_mem_cons.mpr ⟨lw_p32, List.forall_mem_cons.mpr ⟨lw_p33, List.forall_mem_cons.mpr ⟨lw_p34, List.forall_mem_cons.mpr ⟨lw_p35, List.forall_mem_cons.mpr ⟨lw_p36, List.forall_mem_cons.mpr ⟨lw_p37, List.forall_mem_cons.mpr ⟨lw_p38, List.forall_mem_cons.mpr ⟨lw_p39, List.forall_mem_cons.mpr ⟨lw_p40, List.forall_mem_cons.mpr ⟨lw_p41, List.forall_mem_cons.mpr ⟨lw_p42, List.forall_mem_cons.mpr ⟨lw_p43, List.forall_mem_cons.mpr ⟨lw_p44, List.forall_mem_cons.mpr ⟨lw_p45, List.forall_mem_cons.mpr ⟨lw_p46, List.forall_mem_cons.mpr ⟨lw_p47, fun _ h => absurd h List.not_mem_nil⟩⟩⟩⟩⟩⟩⟩⟩⟩⟩⟩⟩⟩⟩⟩⟩
theorem lw_p48 : lw_okq (⟨"ConstraintTextModel", "readDerived", "(I)V"⟩, 33) := ⟨⟨by decide +kernel, by decide +kernel⟩, List.mem_of_getElem? (i := 772) (by decide +kernel), List.mem_of_getElem? (i := 961) (by decide +kernel), List.mem_of_getElem? (i := 962) (by decide +kernel)⟩
theorem lw_p49 : lw_okq (⟨"ConstraintTextModel", "takeOld", "(IZ)V"⟩, 33) := ⟨⟨by decide +kernel, by decide +kernel⟩, List.mem_of_getElem? (i := 772) (by decide +kernel), List.mem_of_getElem? (i := 965) (by decide +kernel), List.mem_of_getElem? (i := 966) (by decide +kernel)⟩
theorem lw_p50 : lw_okq (⟨"ConstraintTextModel", "readException", "(I)V"⟩, 33) := ⟨⟨by decide +kernel, by decide +kernel⟩, List.mem_of_getElem? (i := 772) (by decide +kernel), List.mem_of_getElem? (i := 969) (by decide +kernel), List.mem_of_getElem? (i := 970) (by decide +kernel)⟩
theorem lw_p51 : lw_okq (⟨"ConstraintTextModel", "takeEnd", "()V"⟩, 33) := ⟨⟨by decide +kernel, by decide +kernel⟩, List.mem_of_getElem? (i := 772) (by decide +kernel), List.mem_of_getElem? (i := 973) (by decide +kernel), List.mem_of_getElem? (i := 974) (by decide +kernel)⟩
theorem lw_p52 : lw_okq (⟨"ConstraintTextModel", "unknown", "()I"⟩, 33) := ⟨⟨by decide +kernel, by decide +kernel⟩, List.mem_of_getElem? (i := 772) (by decide +kernel), List.mem_of_getElem? (i := 977) (by decide +kernel), List.mem_of_getElem? (i := 978) (by decide +kernel)⟩
theorem lw_p53 : lw_okq (⟨"ConstraintTextModel", "findFrom", "()V"⟩, 33) := ⟨⟨by decide +kernel, by decide +kernel⟩, List.mem_of_getElem? (i := 772) (by decide +kernel), List.mem_of_getElem? (i := 981) (by decide +kernel), List.mem_of_getElem? (i := 982) (by decide +kernel)⟩
theorem lw_p54 : lw_okq (⟨"ConstraintTextModel", "ring", "()I"⟩, 33) := ⟨⟨by decide +kernel, by decide +kernel⟩, List.mem_of_getElem? (i := 772) (by decide +kernel), List.mem_of_getElem? (i := 985) (by decide +kernel), List.mem_of_getElem? (i := 986) (by decide +kernel)⟩
theorem lw_p55 : lw_okq (⟨"ConstraintTextModel", "greatOne", "()I"⟩, 33) := ⟨⟨by decide +kernel, by decide +kernel⟩, List.mem_of_getElem? (i := 772) (by decide +kernel), List.mem_of_getElem? (i := 989) (by decide +kernel), List.mem_of_getElem? (i := 990) (by decide +kernel)⟩
theorem lw_p56 : lw_okq (⟨"ConstraintTextModel", "depth", "(I)I"⟩, 33) := ⟨⟨by decide +kernel, by decide +kernel⟩, List.mem_of_getElem? (i := 772) (by decide +kernel), List.mem_of_getElem? (i := 993) (by decide +kernel), List.mem_of_getElem? (i := 994) (by decide +kernel)⟩
theorem lw_p57 : lw_okq (⟨"ConstraintTextModel", "reckon", "(I)V"⟩, 33) := ⟨⟨by decide +kernel, by decide +kernel⟩, List.mem_of_getElem? (i := 772) (by decide +kernel), List.mem_of_getElem? (i := 997) (by decide +kernel), List.mem_of_getElem? (i := 998) (by decide +kernel)⟩
theorem lw_p58 : lw_okq (⟨"ConstraintTextModel", "adopt", "()V"⟩, 33) := ⟨⟨by decide +kernel, by decide +kernel⟩, List.mem_of_getElem? (i := 772) (by decide +kernel), List.mem_of_getElem? (i := 1006) (by decide +kernel), List.mem_of_getElem? (i := 1007) (by decide +kernel)⟩
theorem lw_p59 : lw_okq (⟨"ConstraintTextModel", "isClock", "(I)Z"⟩, 33) := ⟨⟨by decide +kernel, by decide +kernel⟩, List.mem_of_getElem? (i := 772) (by decide +kernel), List.mem_of_getElem? (i := 1014) (by decide +kernel), List.mem_of_getElem? (i := 1015) (by decide +kernel)⟩
theorem lw_p60 : lw_okq (⟨"ConstraintTextModel", "matched", "(II)I"⟩, 33) := ⟨⟨by decide +kernel, by decide +kernel⟩, List.mem_of_getElem? (i := 772) (by decide +kernel), List.mem_of_getElem? (i := 1018) (by decide +kernel), List.mem_of_getElem? (i := 1019) (by decide +kernel)⟩
theorem lw_p61 : lw_okq (⟨"ConstraintTextModel", "matches", "(III)Z"⟩, 33) := ⟨⟨by decide +kernel, by decide +kernel⟩, List.mem_of_getElem? (i := 772) (by decide +kernel), List.mem_of_getElem? (i := 1022) (by decide +kernel), List.mem_of_getElem? (i := 1023) (by decide +kernel)⟩
theorem lw_p62 : lw_okq (⟨"ConstraintTextModel", "areApart", "(II)Z"⟩, 33) := ⟨⟨by decide +kernel, by decide +kernel⟩, List.mem_of_getElem? (i := 772) (by decide +kernel), List.mem_of_getElem? (i := 1037) (by decide +kernel), List.mem_of_getElem? (i := 1038) (by decide +kernel)⟩
theorem lw_p63 : lw_okq (⟨"ConstraintTextModel", "fits", "(III)Z"⟩, 33) := ⟨⟨by decide +kernel, by decide +kernel⟩, List.mem_of_getElem? (i := 772) (by decide +kernel), List.mem_of_getElem? (i := 1048) (by decide +kernel), List.mem_of_getElem? (i := 1049) (by decide +kernel)⟩
def lw_privs_4 : List (MethodName × Nat) := [(⟨"ConstraintTextModel", "readDerived", "(I)V"⟩, 33), (⟨"ConstraintTextModel", "takeOld", "(IZ)V"⟩, 33), (⟨"ConstraintTextModel", "readException", "(I)V"⟩, 33), (⟨"ConstraintTextModel", "takeEnd", "()V"⟩, 33), (⟨"ConstraintTextModel", "unknown", "()I"⟩, 33), (⟨"ConstraintTextModel", "findFrom", "()V"⟩, 33), (⟨"ConstraintTextModel", "ring", "()I"⟩, 33), (⟨"ConstraintTextModel", "greatOne", "()I"⟩, 33), (⟨"ConstraintTextModel", "depth", "(I)I"⟩, 33), (⟨"ConstraintTextModel", "reckon", "(I)V"⟩, 33), (⟨"ConstraintTextModel", "adopt", "()V"⟩, 33), (⟨"ConstraintTextModel", "isClock", "(I)Z"⟩, 33), (⟨"ConstraintTextModel", "matched", "(II)I"⟩, 33), (⟨"ConstraintTextModel", "matches", "(III)Z"⟩, 33), (⟨"ConstraintTextModel", "areApart", "(II)Z"⟩, 33), (⟨"ConstraintTextModel", "fits", "(III)Z"⟩, 33)]
theorem lw_r4 : ∀ q ∈ lw_privs_4, lw_okq q := List.forall_mem_cons.mpr ⟨lw_p48, List.forall_mem_cons.mpr ⟨lw_p49, List.forall_mem_cons.mpr ⟨lw_p50, List.forall_mem_cons.mpr ⟨lw_p51, List.forall_mem_cons.mpr ⟨lw_p52, List.forall_mem_cons.mpr ⟨lw_p53, List.forall_mem_cons.mpr ⟨lw_p54, List.forall_mem_cons.mpr ⟨lw_p55, List.forall_mem_cons.mpr ⟨lw_p56, List.forall_mem_cons.mpr ⟨lw_p57, List.forall_mem_cons.mpr ⟨lw_p58, List.forall_mem_cons.mpr ⟨lw_p59, List.forall_mem_cons.mpr ⟨lw_p60, List.forall_mem_cons.mpr ⟨lw_p61, List.forall_mem_cons.mpr ⟨lw_p62, List.forall_mem_cons.mpr ⟨lw_p63, fun _ h => absurd h List.not_mem_nil⟩⟩⟩⟩⟩⟩⟩⟩⟩⟩⟩⟩⟩⟩⟩⟩
theorem lw_p64 : lw_okq (⟨"ConstraintTextModel", "strength", "(I)I"⟩, 33) := ⟨⟨by decide +kernel, by decide +kernel⟩, List.mem_of_getElem? (i := 772) (by decide +kernel), List.mem_of_getElem? (i := 1052) (by decide +kernel), List.mem_of_getElem? (i := 1053) (by decide +kernel)⟩
theorem lw_p65 : lw_okq (⟨"ConstraintTextModel", "isUnmatched", "(I)Z"⟩, 33) := ⟨⟨by decide +kernel, by decide +kernel⟩, List.mem_of_getElem? (i := 772) (by decide +kernel), List.mem_of_getElem? (i := 1068) (by decide +kernel), List.mem_of_getElem? (i := 1069) (by decide +kernel)⟩
theorem lw_p66 : lw_okq (⟨"ConstraintTextModel", "areClashing", "(II)Z"⟩, 33) := ⟨⟨by decide +kernel, by decide +kernel⟩, List.mem_of_getElem? (i := 772) (by decide +kernel), List.mem_of_getElem? (i := 1076) (by decide +kernel), List.mem_of_getElem? (i := 1077) (by decide +kernel)⟩
theorem lw_p67 : lw_okq (⟨"ConstraintTextModel", "printAll", "(I)V"⟩, 33) := ⟨⟨by decide +kernel, by decide +kernel⟩, List.mem_of_getElem? (i := 772) (by decide +kernel), List.mem_of_getElem? (i := 1084) (by decide +kernel), List.mem_of_getElem? (i := 1085) (by decide +kernel)⟩
theorem lw_p68 : lw_okq (⟨"ConstraintTextModel", "print", "(I)V"⟩, 33) := ⟨⟨by decide +kernel, by decide +kernel⟩, List.mem_of_getElem? (i := 772) (by decide +kernel), List.mem_of_getElem? (i := 1088) (by decide +kernel), List.mem_of_getElem? (i := 1089) (by decide +kernel)⟩
theorem lw_p69 : lw_okq (⟨"ConstraintTextModel", "putWord", "(J)V"⟩, 33) := ⟨⟨by decide +kernel, by decide +kernel⟩, List.mem_of_getElem? (i := 772) (by decide +kernel), List.mem_of_getElem? (i := 1092) (by decide +kernel), List.mem_of_getElem? (i := 1093) (by decide +kernel)⟩
theorem lw_p70 : lw_okq (⟨"ConstraintTextModel", "put", "(I)V"⟩, 33) := ⟨⟨by decide +kernel, by decide +kernel⟩, List.mem_of_getElem? (i := 772) (by decide +kernel), List.mem_of_getElem? (i := 1097) (by decide +kernel), List.mem_of_getElem? (i := 1098) (by decide +kernel)⟩
theorem lw_p71 : lw_okq (⟨"ConstraintTextModel", "putWhole", "(I)V"⟩, 33) := ⟨⟨by decide +kernel, by decide +kernel⟩, List.mem_of_getElem? (i := 772) (by decide +kernel), List.mem_of_getElem? (i := 1101) (by decide +kernel), List.mem_of_getElem? (i := 1102) (by decide +kernel)⟩
theorem lw_p72 : lw_okq (⟨"ConstraintTextModel", "putPattern", "(II)V"⟩, 33) := ⟨⟨by decide +kernel, by decide +kernel⟩, List.mem_of_getElem? (i := 772) (by decide +kernel), List.mem_of_getElem? (i := 1105) (by decide +kernel), List.mem_of_getElem? (i := 1106) (by decide +kernel)⟩
def lw_privs_5 : List (MethodName × Nat) := [(⟨"ConstraintTextModel", "strength", "(I)I"⟩, 33), (⟨"ConstraintTextModel", "isUnmatched", "(I)Z"⟩, 33), (⟨"ConstraintTextModel", "areClashing", "(II)Z"⟩, 33), (⟨"ConstraintTextModel", "printAll", "(I)V"⟩, 33), (⟨"ConstraintTextModel", "print", "(I)V"⟩, 33), (⟨"ConstraintTextModel", "putWord", "(J)V"⟩, 33), (⟨"ConstraintTextModel", "put", "(I)V"⟩, 33), (⟨"ConstraintTextModel", "putWhole", "(I)V"⟩, 33), (⟨"ConstraintTextModel", "putPattern", "(II)V"⟩, 33)]
theorem lw_r5 : ∀ q ∈ lw_privs_5, lw_okq q := List.forall_mem_cons.mpr ⟨lw_p64, List.forall_mem_cons.mpr ⟨lw_p65, List.forall_mem_cons.mpr ⟨lw_p66, List.forall_mem_cons.mpr ⟨lw_p67, List.forall_mem_cons.mpr ⟨lw_p68, List.forall_mem_cons.mpr ⟨lw_p69, List.forall_mem_cons.mpr ⟨lw_p70, List.forall_mem_cons.mpr ⟨lw_p71, List.forall_mem_cons.mpr ⟨lw_p72, fun _ h => absurd h List.not_mem_nil⟩⟩⟩⟩⟩⟩⟩⟩⟩
def lw_privs : List (MethodName × Nat) := lw_privs_1 ++ (lw_privs_2 ++ (lw_privs_3 ++ (lw_privs_4 ++ (lw_privs_5))))
def lw_tbl : List Cond := k2_sels lw_privs ++ tables_1
theorem lw_privs_ok : ∀ q ∈ lw_privs, lw_okq q := by
  show ∀ q ∈ lw_privs_1 ++ (lw_privs_2 ++ (lw_privs_3 ++ (lw_privs_4 ++ (lw_privs_5)))), lw_okq q
  exact List.forall_mem_append.mpr ⟨lw_r1, List.forall_mem_append.mpr ⟨lw_r2, List.forall_mem_append.mpr ⟨lw_r3, List.forall_mem_append.mpr ⟨lw_r4, lw_r5⟩⟩⟩⟩
/-- the words that outlast a step of the machine -/
def gtb : List Cond := lw_tbl.filter goodWord
theorem tw_of {w : Cond} (i : Nat) (h : lw_tbl[i]? = some w) (hg : goodWord w = true) : w ∈ gtb := List.mem_filter.mpr ⟨List.mem_of_getElem? h, hg⟩
theorem tc_s {w : Cond} (i : Nat) (h : (k2_sels lw_privs)[i]? = some w) (hg : goodWord w = true) : w ∈ gtb := List.mem_filter.mpr ⟨List.mem_append_left _ (List.mem_of_getElem? h), hg⟩
theorem tc_1_c {w : Cond} (i : Nat) (h : tables_1_1[i]? = some w) : w ∈ tables_1 := (List.mem_append_left _ (List.mem_of_getElem? h))
theorem tc_1 {w : Cond} (i : Nat) (h : tables_1_1[i]? = some w) (hg : goodWord w = true) : w ∈ gtb := List.mem_filter.mpr ⟨List.mem_append_right _ (tc_1_c i h), hg⟩
theorem tc_2_c {w : Cond} (i : Nat) (h : tables_1_2[i]? = some w) : w ∈ tables_1 := (List.mem_append_right _ (List.mem_append_left _ (List.mem_of_getElem? h)))
theorem tc_2 {w : Cond} (i : Nat) (h : tables_1_2[i]? = some w) (hg : goodWord w = true) : w ∈ gtb := List.mem_filter.mpr ⟨List.mem_append_right _ (tc_2_c i h), hg⟩
theorem tc_3_c {w : Cond} (i : Nat) (h : tables_1_3[i]? = some w) : w ∈ tables_1 := (List.mem_append_right _ (List.mem_append_right _ (List.mem_append_left _ (List.mem_of_getElem? h))))
theorem tc_3 {w : Cond} (i : Nat) (h : tables_1_3[i]? = some w) (hg : goodWord w = true) : w ∈ gtb := List.mem_filter.mpr ⟨List.mem_append_right _ (tc_3_c i h), hg⟩
theorem tc_4_c {w : Cond} (i : Nat) (h : tables_1_4[i]? = some w) : w ∈ tables_1 := (List.mem_append_right _ (List.mem_append_right _ (List.mem_append_right _ (List.mem_append_left _ (List.mem_of_getElem? h)))))
theorem tc_4 {w : Cond} (i : Nat) (h : tables_1_4[i]? = some w) (hg : goodWord w = true) : w ∈ gtb := List.mem_filter.mpr ⟨List.mem_append_right _ (tc_4_c i h), hg⟩
theorem tc_5_c {w : Cond} (i : Nat) (h : tables_1_5[i]? = some w) : w ∈ tables_1 := (List.mem_append_right _ (List.mem_append_right _ (List.mem_append_right _ (List.mem_append_right _ (List.mem_of_getElem? h)))))
theorem tc_5 {w : Cond} (i : Nat) (h : tables_1_5[i]? = some w) (hg : goodWord w = true) : w ∈ gtb := List.mem_filter.mpr ⟨List.mem_append_right _ (tc_5_c i h), hg⟩
theorem gtb_good {w : Cond} (h : w ∈ gtb) : goodWord w = true := (List.mem_filter.mp h).2
theorem gtb_in {w : Cond} (h : w ∈ gtb) : w ∈ lw_tbl := (List.mem_filter.mp h).1
def RX0 : String := "ConstraintText$ClockTable"
def TX0 : u_T := fun k => match k with
  | 0 => ("ConstraintText$ClockTable", "rows", "[I", true)
  | 1 => ("ConstraintText$ClockTable", "sources", "[I", true)
  | 2 => ("ConstraintText$ClockTable", "turned", "[Z", true)
  | 3 => ("ConstraintText$ClockTable", "timesBy", "[I", true)
  | 4 => ("ConstraintText$ClockTable", "dividedBy", "[I", true)
  | 5 => ("ConstraintText$ClockTable", "periods", "[J", true)
  | 6 => ("ConstraintText$ClockTable", "rises", "[J", true)
  | 7 => ("ConstraintText$ClockTable", "falls", "[J", true)
  | 8 => ("ConstraintText$ClockTable", "lowers", "[J", true)
  | 9 => ("ConstraintText$ClockTable", "settled", "[Z", true)
  | 10 => ("ConstraintText$ClockTable", "great", "[Z", true)
  | _ => ("ConstraintText$ClockTable", "size", "I", false)
def tyX0 : Nat → FieldType := fun k => match k with
  | 0 => .array .int
  | 1 => .array .int
  | 2 => .array .boolean
  | 3 => .array .int
  | 4 => .array .int
  | 5 => .array .long
  | 6 => .array .long
  | 7 => .array .long
  | 8 => .array .long
  | 9 => .array .boolean
  | 10 => .array .boolean
  | _ => .int
theorem nmX0 : ∀ a, a < 12 → ∀ b, b < 12 → a ≠ b → (TX0 a).2.1 ≠ (TX0 b).2.1 := by decide +kernel
theorem tyX0_ok : ∀ k, k < 12 → parseFieldDescriptor (TX0 k).2.2.1 = some (tyX0 k) := by decide +kernel
abbrev cX0_init : ByteArray := prog_2_method_1_code
def yX0_init : MethodName := ⟨RX0, "<init>", "()V"⟩
abbrev cX0_has : ByteArray := prog_2_method_2_code
def yX0_has : MethodName := ⟨RX0, "has", "(I)Z"⟩
abbrev cX0_wipe : ByteArray := prog_2_method_3_code
def yX0_wipe : MethodName := ⟨RX0, "wipe", "()V"⟩
abbrev cX0_open : ByteArray := prog_2_method_4_code
def yX0_open : MethodName := ⟨RX0, "open", "(I)V"⟩
abbrev cX0_setTimes : ByteArray := prog_2_method_5_code
def yX0_setTimes : MethodName := ⟨RX0, "setTimes", "(III)V"⟩
abbrev cX0_setRatio : ByteArray := prog_2_method_6_code
def yX0_setRatio : MethodName := ⟨RX0, "setRatio", "(IIZ)V"⟩
abbrev cX0_inRing : ByteArray := prog_2_method_7_code
def yX0_inRing : MethodName := ⟨RX0, "inRing", "(I)Z"⟩
abbrev cX0_settleAll : ByteArray := prog_2_method_8_code
def yX0_settleAll : MethodName := ⟨RX0, "settleAll", "()V"⟩
abbrev cX0_settle : ByteArray := prog_2_method_9_code
def yX0_settle : MethodName := ⟨RX0, "settle", "(II)V"⟩
abbrev cX0_fact : ByteArray := prog_2_method_10_code
def yX0_fact : MethodName := ⟨RX0, "fact", "(II)I"⟩
abbrev cX0_edgePart : ByteArray := prog_2_method_11_code
def yX0_edgePart : MethodName := ⟨RX0, "edgePart", "(III)J"⟩
abbrev cX0_distancePart : ByteArray := prog_2_method_12_code
def yX0_distancePart : MethodName := ⟨RX0, "distancePart", "(III)J"⟩
def RX1 : String := "ConstraintText$Pins"
def TX1 : u_T := fun k => match k with
  | 0 => ("ConstraintText$Pins", "units", "[C", true)
  | _ => ("ConstraintText$Pins", "lengths", "[I", true)
def tyX1 : Nat → FieldType := fun k => match k with
  | 0 => .array .char
  | _ => .array .int
theorem nmX1 : ∀ a, a < 2 → ∀ b, b < 2 → a ≠ b → (TX1 a).2.1 ≠ (TX1 b).2.1 := by decide +kernel
theorem tyX1_ok : ∀ k, k < 2 → parseFieldDescriptor (TX1 k).2.2.1 = some (tyX1 k) := by decide +kernel
abbrev cX1_init : ByteArray := prog_3_method_1_code
def yX1_init : MethodName := ⟨RX1, "<init>", "()V"⟩
abbrev cX1_has : ByteArray := prog_3_method_2_code
def yX1_has : MethodName := ⟨RX1, "has", "(I)Z"⟩
abbrev cX1_grow : ByteArray := prog_3_method_3_code
def yX1_grow : MethodName := ⟨RX1, "grow", "(II)Z"⟩
abbrev cX1_lengthOf : ByteArray := prog_3_method_4_code
def yX1_lengthOf : MethodName := ⟨RX1, "lengthOf", "(I)I"⟩
abbrev cX1_at : ByteArray := prog_3_method_5_code
def yX1_at : MethodName := ⟨RX1, "at", "(II)C"⟩
def RX2 : String := "ConstraintText$Reader"
def TX2 : u_T := fun k => match k with
  | 0 => ("ConstraintText$Reader", "tape", "LConstraintText$Tape;", true)
  | 1 => ("ConstraintText$Reader", "nameStarts", "[I", true)
  | 2 => ("ConstraintText$Reader", "nameLengths", "[I", true)
  | 3 => ("ConstraintText$Reader", "linkStarts", "[I", true)
  | 4 => ("ConstraintText$Reader", "linkLengths", "[I", true)
  | 5 => ("ConstraintText$Reader", "sheet", "LConstraintText$Sheet;", false)
  | 6 => ("ConstraintText$Reader", "start", "I", false)
  | _ => ("ConstraintText$Reader", "end", "I", false)
def tyX2 : Nat → FieldType := fun k => match k with
  | 0 => .object "ConstraintText$Tape"
  | 1 => .array .int
  | 2 => .array .int
  | 3 => .array .int
  | 4 => .array .int
  | 5 => .object "ConstraintText$Sheet"
  | 6 => .int
  | _ => .int
theorem nmX2 : ∀ a, a < 8 → ∀ b, b < 8 → a ≠ b → (TX2 a).2.1 ≠ (TX2 b).2.1 := by decide +kernel
theorem tyX2_ok : ∀ k, k < 8 → parseFieldDescriptor (TX2 k).2.2.1 = some (tyX2 k) := by decide +kernel
abbrev cX2_init : ByteArray := prog_4_method_1_code
def yX2_init : MethodName := ⟨RX2, "<init>", "()V"⟩
abbrev cX2_exchange : ByteArray := prog_4_method_2_code
def yX2_exchange : MethodName := ⟨RX2, "exchange", "(LConstraintText$Sheet;)LConstraintText$Sheet;"⟩
abbrev cX2_faultOfTape : ByteArray := prog_4_method_3_code
def yX2_faultOfTape : MethodName := ⟨RX2, "faultOfTape", "()I"⟩
abbrev cX2_takeRow : ByteArray := prog_4_method_4_code
def yX2_takeRow : MethodName := ⟨RX2, "takeRow", "()Z"⟩
abbrev cX2_takeWord : ByteArray := prog_4_method_5_code
def yX2_takeWord : MethodName := ⟨RX2, "takeWord", "()V"⟩
abbrev cX2_takeNewClock : ByteArray := prog_4_method_6_code
def yX2_takeNewClock : MethodName := ⟨RX2, "takeNewClock", "()Z"⟩
abbrev cX2_takeTimes : ByteArray := prog_4_method_7_code
def yX2_takeTimes : MethodName := ⟨RX2, "takeTimes", "()Z"⟩
abbrev cX2_takeLink : ByteArray := prog_4_method_8_code
def yX2_takeLink : MethodName := ⟨RX2, "takeLink", "(I)Z"⟩
abbrev cX2_takeRatio : ByteArray := prog_4_method_9_code
def yX2_takeRatio : MethodName := ⟨RX2, "takeRatio", "(Z)Z"⟩
abbrev cX2_takeValue : ByteArray := prog_4_method_10_code
def yX2_takeValue : MethodName := ⟨RX2, "takeValue", "(II)Z"⟩
abbrev cX2_takeWhole : ByteArray := prog_4_method_11_code
def yX2_takeWhole : MethodName := ⟨RX2, "takeWhole", "(II)I"⟩
abbrev cX2_takePath : ByteArray := prog_4_method_12_code
def yX2_takePath : MethodName := ⟨RX2, "takePath", "()Z"⟩
abbrev cX2_takePattern : ByteArray := prog_4_method_13_code
def yX2_takePattern : MethodName := ⟨RX2, "takePattern", "(I)Z"⟩
abbrev cX2_keepPattern : ByteArray := prog_4_method_14_code
def yX2_keepPattern : MethodName := ⟨RX2, "keepPattern", "(I)Z"⟩
abbrev cX2_takeEnd : ByteArray := prog_4_method_15_code
def yX2_takeEnd : MethodName := ⟨RX2, "takeEnd", "()Z"⟩
abbrev cX2_printWord : ByteArray := prog_4_method_16_code
def yX2_printWord : MethodName := ⟨RX2, "printWord", "()V"⟩
abbrev cX2_sortInHand : ByteArray := prog_4_method_17_code
def yX2_sortInHand : MethodName := ⟨RX2, "sortInHand", "()I"⟩
abbrev cX2_isInHand : ByteArray := prog_4_method_18_code
def yX2_isInHand : MethodName := ⟨RX2, "isInHand", "(Ljava/lang/String;)Z"⟩
abbrev cX2_isAnyInHand : ByteArray := prog_4_method_19_code
def yX2_isAnyInHand : MethodName := ⟨RX2, "isAnyInHand", "()Z"⟩
abbrev cX2_isNameInHand : ByteArray := prog_4_method_20_code
def yX2_isNameInHand : MethodName := ⟨RX2, "isNameInHand", "()Z"⟩
abbrev cX2_isPatternInHand : ByteArray := prog_4_method_21_code
def yX2_isPatternInHand : MethodName := ⟨RX2, "isPatternInHand", "()Z"⟩
abbrev cX2_wholeInHand : ByteArray := prog_4_method_22_code
def yX2_wholeInHand : MethodName := ⟨RX2, "wholeInHand", "()I"⟩
abbrev cX2_clockNamed : ByteArray := prog_4_method_23_code
def yX2_clockNamed : MethodName := ⟨RX2, "clockNamed", "(II)I"⟩
abbrev cX2_isSameText : ByteArray := prog_4_method_24_code
def yX2_isSameText : MethodName := ⟨RX2, "isSameText", "(III)Z"⟩
abbrev cX2_bindLinks : ByteArray := prog_4_method_25_code
def yX2_bindLinks : MethodName := ⟨RX2, "bindLinks", "()Z"⟩
abbrev cX2_hasNoRing : ByteArray := prog_4_method_26_code
def yX2_hasNoRing : MethodName := ⟨RX2, "hasNoRing", "()Z"⟩
abbrev cX2_hasNoneGreat : ByteArray := prog_4_method_27_code
def yX2_hasNoneGreat : MethodName := ⟨RX2, "hasNoneGreat", "()Z"⟩
def RX3 : String := "ConstraintText$Sheet"
def TX3 : u_T := fun k => match k with
  | 0 => ("ConstraintText$Sheet", "sorts", "[I", true)
  | 1 => ("ConstraintText$Sheet", "values", "[I", true)
  | 2 => ("ConstraintText$Sheet", "links", "[I", true)
  | 3 => ("ConstraintText$Sheet", "patternStarts", "[I", true)
  | 4 => ("ConstraintText$Sheet", "patternLengths", "[I", true)
  | 5 => ("ConstraintText$Sheet", "hits", "[J", true)
  | 6 => ("ConstraintText$Sheet", "printed", "[C", true)
  | 7 => ("ConstraintText$Sheet", "clocks", "LConstraintText$ClockTable;", true)
  | 8 => ("ConstraintText$Sheet", "rowCount", "I", false)
  | _ => ("ConstraintText$Sheet", "printedLength", "I", false)
def tyX3 : Nat → FieldType := fun k => match k with
  | 0 => .array .int
  | 1 => .array .int
  | 2 => .array .int
  | 3 => .array .int
  | 4 => .array .int
  | 5 => .array .long
  | 6 => .array .char
  | 7 => .object "ConstraintText$ClockTable"
  | 8 => .int
  | _ => .int
theorem nmX3 : ∀ a, a < 10 → ∀ b, b < 10 → a ≠ b → (TX3 a).2.1 ≠ (TX3 b).2.1 := by decide +kernel
theorem tyX3_ok : ∀ k, k < 10 → parseFieldDescriptor (TX3 k).2.2.1 = some (tyX3 k) := by decide +kernel
abbrev cX3_init : ByteArray := prog_5_method_1_code
def yX3_init : MethodName := ⟨RX3, "<init>", "()V"⟩
abbrev cX3_wipe : ByteArray := prog_5_method_2_code
def yX3_wipe : MethodName := ⟨RX3, "wipe", "()V"⟩
abbrev cX3_open : ByteArray := prog_5_method_3_code
def yX3_open : MethodName := ⟨RX3, "open", "(I)V"⟩
abbrev cX3_setValue : ByteArray := prog_5_method_4_code
def yX3_setValue : MethodName := ⟨RX3, "setValue", "(I)V"⟩
abbrev cX3_setPattern : ByteArray := prog_5_method_5_code
def yX3_setPattern : MethodName := ⟨RX3, "setPattern", "(II)V"⟩
abbrev cX3_patternOf : ByteArray := prog_5_method_6_code
def yX3_patternOf : MethodName := ⟨RX3, "patternOf", "(II)I"⟩
abbrev cX3_newestHasPattern : ByteArray := prog_5_method_7_code
def yX3_newestHasPattern : MethodName := ⟨RX3, "newestHasPattern", "()Z"⟩
abbrev cX3_print : ByteArray := prog_5_method_8_code
def yX3_print : MethodName := ⟨RX3, "print", "(I)V"⟩
abbrev cX3_printGap : ByteArray := prog_5_method_9_code
def yX3_printGap : MethodName := ⟨RX3, "printGap", "()V"⟩
abbrev cX3_printWhole : ByteArray := prog_5_method_10_code
def yX3_printWhole : MethodName := ⟨RX3, "printWhole", "(I)V"⟩
abbrev cX3_printedAt : ByteArray := prog_5_method_11_code
def yX3_printedAt : MethodName := ⟨RX3, "printedAt", "(I)I"⟩
abbrev cX3_hitsOf : ByteArray := prog_5_method_12_code
def yX3_hitsOf : MethodName := ⟨RX3, "hitsOf", "(II)J"⟩
abbrev cX3_matchPin : ByteArray := prog_5_method_13_code
def yX3_matchPin : MethodName := ⟨RX3, "matchPin", "(LConstraintText$Pins;I)V"⟩
abbrev cX3_fits : ByteArray := prog_5_method_14_code
def yX3_fits : MethodName := ⟨RX3, "fits", "(ILConstraintText$Pins;I)Z"⟩
abbrev cX3_reachedByStars : ByteArray := prog_5_method_15_code
def yX3_reachedByStars : MethodName := ⟨RX3, "reachedByStars", "(I)I"⟩
abbrev cX3_reachedBy : ByteArray := prog_5_method_16_code
def yX3_reachedBy : MethodName := ⟨RX3, "reachedBy", "(III)I"⟩
abbrev cX3_linkOf : ByteArray := prog_5_method_17_code
def yX3_linkOf : MethodName := ⟨RX3, "linkOf", "(II)I"⟩
abbrev cX3_saysApart : ByteArray := prog_5_method_18_code
def yX3_saysApart : MethodName := ⟨RX3, "saysApart", "(II)Z"⟩
abbrev cX3_winner : ByteArray := prog_5_method_19_code
def yX3_winner : MethodName := ⟨RX3, "winner", "(III)I"⟩
abbrev cX3_strengthOf : ByteArray := prog_5_method_20_code
def yX3_strengthOf : MethodName := ⟨RX3, "strengthOf", "(I)I"⟩
abbrev cX3_weightOf : ByteArray := prog_5_method_21_code
def yX3_weightOf : MethodName := ⟨RX3, "weightOf", "(I)I"⟩
abbrev cX3_admits : ByteArray := prog_5_method_22_code
def yX3_admits : MethodName := ⟨RX3, "admits", "(III)Z"⟩
abbrev cX3_hasPattern : ByteArray := prog_5_method_23_code
def yX3_hasPattern : MethodName := ⟨RX3, "hasPattern", "(II)Z"⟩
abbrev cX3_matches : ByteArray := prog_5_method_24_code
def yX3_matches : MethodName := ⟨RX3, "matches", "(III)Z"⟩
abbrev cX3_latestValue : ByteArray := prog_5_method_25_code
def yX3_latestValue : MethodName := ⟨RX3, "latestValue", "(II)I"⟩
abbrev cX3_idleRow : ByteArray := prog_5_method_26_code
def yX3_idleRow : MethodName := ⟨RX3, "idleRow", "(I)I"⟩
abbrev cX3_isIdle : ByteArray := prog_5_method_27_code
def yX3_isIdle : MethodName := ⟨RX3, "isIdle", "(I)Z"⟩
abbrev cX3_clashingRow : ByteArray := prog_5_method_28_code
def yX3_clashingRow : MethodName := ⟨RX3, "clashingRow", "(II)I"⟩
abbrev cX3_haveClash : ByteArray := prog_5_method_29_code
def yX3_haveClash : MethodName := ⟨RX3, "haveClash", "(II)Z"⟩
def RX4 : String := "ConstraintText$Tape"
def TX4 : u_T := fun k => match k with
  | 0 => ("ConstraintText$Tape", "units", "[C", true)
  | _ => ("ConstraintText$Tape", "length", "I", false)
def tyX4 : Nat → FieldType := fun k => match k with
  | 0 => .array .char
  | _ => .int
theorem nmX4 : ∀ a, a < 2 → ∀ b, b < 2 → a ≠ b → (TX4 a).2.1 ≠ (TX4 b).2.1 := by decide +kernel
theorem tyX4_ok : ∀ k, k < 2 → parseFieldDescriptor (TX4 k).2.2.1 = some (tyX4 k) := by decide +kernel
abbrev cX4_init : ByteArray := prog_6_method_1_code
def yX4_init : MethodName := ⟨RX4, "<init>", "()V"⟩
abbrev cX4_takes : ByteArray := prog_6_method_2_code
def yX4_takes : MethodName := ⟨RX4, "takes", "(I)Z"⟩
abbrev cX4_room : ByteArray := prog_6_method_3_code
def yX4_room : MethodName := ⟨RX4, "room", "()I"⟩
abbrev cX4_append : ByteArray := prog_6_method_4_code
def yX4_append : MethodName := ⟨RX4, "append", "(I)V"⟩
abbrev cX4_wipe : ByteArray := prog_6_method_5_code
def yX4_wipe : MethodName := ⟨RX4, "wipe", "()V"⟩
abbrev cX4_at : ByteArray := prog_6_method_6_code
def yX4_at : MethodName := ⟨RX4, "at", "(I)C"⟩
def RX5 : String := "ConstraintText"
def TX5 : u_T := fun k => match k with
  | 0 => ("ConstraintText", "tape", "LConstraintText$Tape;", true)
  | 1 => ("ConstraintText", "pins", "LConstraintText$Pins;", true)
  | 2 => ("ConstraintText", "reader", "LConstraintText$Reader;", true)
  | _ => ("ConstraintText", "sheet", "LConstraintText$Sheet;", false)
def tyX5 : Nat → FieldType := fun k => match k with
  | 0 => .object "ConstraintText$Tape"
  | 1 => .object "ConstraintText$Pins"
  | 2 => .object "ConstraintText$Reader"
  | _ => .object "ConstraintText$Sheet"
theorem nmX5 : ∀ a, a < 4 → ∀ b, b < 4 → a ≠ b → (TX5 a).2.1 ≠ (TX5 b).2.1 := by decide +kernel
theorem tyX5_ok : ∀ k, k < 4 → parseFieldDescriptor (TX5 k).2.2.1 = some (tyX5 k) := by decide +kernel
abbrev cX5_init : ByteArray := prog_1_method_1_code
def yX5_init : MethodName := ⟨RX5, "<init>", "()V"⟩
abbrev cX5_unit : ByteArray := prog_1_method_2_code
def yX5_unit : MethodName := ⟨RX5, "unit", "(I)Z"⟩
abbrev cX5_units : ByteArray := prog_1_method_3_code
def yX5_units : MethodName := ⟨RX5, "units", "(I)Z"⟩
abbrev cX5_name : ByteArray := prog_1_method_4_code
def yX5_name : MethodName := ⟨RX5, "name", "(II)Z"⟩
abbrev cX5_read : ByteArray := prog_1_method_5_code
def yX5_read : MethodName := ⟨RX5, "read", "()I"⟩
abbrev cX5_clock : ByteArray := prog_1_method_6_code
def yX5_clock : MethodName := ⟨RX5, "clock", "(II)I"⟩
abbrev cX5_edge : ByteArray := prog_1_method_7_code
def yX5_edge : MethodName := ⟨RX5, "edge", "(III)J"⟩
abbrev cX5_distance : ByteArray := prog_1_method_8_code
def yX5_distance : MethodName := ⟨RX5, "distance", "(III)J"⟩
abbrev cX5_exception : ByteArray := prog_1_method_9_code
def yX5_exception : MethodName := ⟨RX5, "exception", "(III)I"⟩
abbrev cX5_row : ByteArray := prog_1_method_10_code
def yX5_row : MethodName := ⟨RX5, "row", "(II)I"⟩
abbrev cX5_load : ByteArray := prog_1_method_11_code
def yX5_load : MethodName := ⟨RX5, "load", "(II)I"⟩
abbrev cX5_unmatched : ByteArray := prog_1_method_12_code
def yX5_unmatched : MethodName := ⟨RX5, "unmatched", "(I)I"⟩
abbrev cX5_clash : ByteArray := prog_1_method_13_code
def yX5_clash : MethodName := ⟨RX5, "clash", "(II)I"⟩
abbrev cX5_write : ByteArray := prog_1_method_14_code
def yX5_write : MethodName := ⟨RX5, "write", "(I)I"⟩
abbrev cX5_count : ByteArray := prog_1_method_15_code
def yX5_count : MethodName := ⟨RX5, "count", "(I)I"⟩
abbrev cX5_isPinOrNone : ByteArray := prog_1_method_16_code
def yX5_isPinOrNone : MethodName := ⟨RX5, "isPinOrNone", "(I)Z"⟩
abbrev cX5_isSmallLetter : ByteArray := prog_1_method_17_code
def yX5_isSmallLetter : MethodName := ⟨RX5, "isSmallLetter", "(I)Z"⟩
abbrev cX5_isDigit : ByteArray := prog_1_method_18_code
def yX5_isDigit : MethodName := ⟨RX5, "isDigit", "(I)Z"⟩
abbrev cX5_isNameUnit : ByteArray := prog_1_method_19_code
def yX5_isNameUnit : MethodName := ⟨RX5, "isNameUnit", "(I)Z"⟩
abbrev cX5_isBlank : ByteArray := prog_1_method_20_code
def yX5_isBlank : MethodName := ⟨RX5, "isBlank", "(I)Z"⟩
abbrev cX5_makesClock : ByteArray := prog_1_method_21_code
def yX5_makesClock : MethodName := ⟨RX5, "makesClock", "(I)Z"⟩
abbrev cX5_keyword : ByteArray := prog_1_method_22_code
def yX5_keyword : MethodName := ⟨RX5, "keyword", "(I)Ljava/lang/String;"⟩
abbrev cX5_commonDivisor : ByteArray := prog_1_method_23_code
def yX5_commonDivisor : MethodName := ⟨RX5, "commonDivisor", "(JJ)J"⟩
abbrev cX5_lowestPart : ByteArray := prog_1_method_24_code
def yX5_lowestPart : MethodName := ⟨RX5, "lowestPart", "(JJI)J"⟩
def RX6 : String := "ConstraintTextModel"
def TX6 : u_T := fun k => match k with
  | 0 => ("ConstraintTextModel", "code", "I", false)
  | 1 => ("ConstraintTextModel", "letters", "[I", true)
  | 2 => ("ConstraintTextModel", "sizes", "[I", true)
  | 3 => ("ConstraintTextModel", "tape", "[I", true)
  | 4 => ("ConstraintTextModel", "length", "I", false)
  | 5 => ("ConstraintTextModel", "rows", "I", false)
  | 6 => ("ConstraintTextModel", "sort", "[I", true)
  | 7 => ("ConstraintTextModel", "nameC", "[J", true)
  | 8 => ("ConstraintTextModel", "nameD", "[J", true)
  | 9 => ("ConstraintTextModel", "one", "[I", true)
  | 10 => ("ConstraintTextModel", "two", "[I", true)
  | 11 => ("ConstraintTextModel", "three", "[I", true)
  | 12 => ("ConstraintTextModel", "pattern", "[I", true)
  | 13 => ("ConstraintTextModel", "patternSize", "[I", true)
  | 14 => ("ConstraintTextModel", "clocks", "I", false)
  | 15 => ("ConstraintTextModel", "clockRow", "[I", true)
  | 16 => ("ConstraintTextModel", "from", "[I", true)
  | 17 => ("ConstraintTextModel", "period", "[J", true)
  | 18 => ("ConstraintTextModel", "rise", "[J", true)
  | 19 => ("ConstraintTextModel", "fall", "[J", true)
  | 20 => ("ConstraintTextModel", "under", "[J", true)
  | 21 => ("ConstraintTextModel", "great", "[Z", true)
  | 22 => ("ConstraintTextModel", "begin", "I", false)
  | 23 => ("ConstraintTextModel", "end", "I", false)
  | 24 => ("ConstraintTextModel", "right", "Z", false)
  | 25 => ("ConstraintTextModel", "newRows", "I", false)
  | 26 => ("ConstraintTextModel", "newClocks", "I", false)
  | 27 => ("ConstraintTextModel", "placeC", "[I", true)
  | 28 => ("ConstraintTextModel", "placeD", "[I", true)
  | 29 => ("ConstraintTextModel", "reads", "[Z", true)
  | 30 => ("ConstraintTextModel", "wanted", "I", false)
  | 31 => ("ConstraintTextModel", "printed", "I", false)
  | _ => ("ConstraintTextModel", "told", "I", false)
def tyX6 : Nat → FieldType := fun k => match k with
  | 0 => .int
  | 1 => .array .int
  | 2 => .array .int
  | 3 => .array .int
  | 4 => .int
  | 5 => .int
  | 6 => .array .int
  | 7 => .array .long
  | 8 => .array .long
  | 9 => .array .int
  | 10 => .array .int
  | 11 => .array .int
  | 12 => .array .int
  | 13 => .array .int
  | 14 => .int
  | 15 => .array .int
  | 16 => .array .int
  | 17 => .array .long
  | 18 => .array .long
  | 19 => .array .long
  | 20 => .array .long
  | 21 => .array .boolean
  | 22 => .int
  | 23 => .int
  | 24 => .boolean
  | 25 => .int
  | 26 => .int
  | 27 => .array .int
  | 28 => .array .int
  | 29 => .array .boolean
  | 30 => .int
  | 31 => .int
  | _ => .int
theorem nmX6 : ∀ a, a < 33 → ∀ b, b < 33 → a ≠ b → (TX6 a).2.1 ≠ (TX6 b).2.1 := by decide +kernel
theorem tyX6_ok : ∀ k, k < 33 → parseFieldDescriptor (TX6 k).2.2.1 = some (tyX6 k) := by decide +kernel
abbrev cX6_init : ByteArray := prog_8_method_1_code
def yX6_init : MethodName := ⟨RX6, "<init>", "()V"⟩
abbrev cX6_thrown : ByteArray := prog_8_method_2_code
def yX6_thrown : MethodName := ⟨RX6, "thrown", "()I"⟩
abbrev cX6_isName : ByteArray := prog_8_method_3_code
def yX6_isName : MethodName := ⟨RX6, "isName", "(I)Z"⟩
abbrev cX6_name : ByteArray := prog_8_method_4_code
def yX6_name : MethodName := ⟨RX6, "name", "(II)Z"⟩
abbrev cX6_isCharacter : ByteArray := prog_8_method_5_code
def yX6_isCharacter : MethodName := ⟨RX6, "isCharacter", "(I)Z"⟩
abbrev cX6_unit : ByteArray := prog_8_method_6_code
def yX6_unit : MethodName := ⟨RX6, "unit", "(I)Z"⟩
abbrev cX6_units : ByteArray := prog_8_method_7_code
def yX6_units : MethodName := ⟨RX6, "units", "(I)Z"⟩
abbrev cX6_next : ByteArray := prog_8_method_8_code
def yX6_next : MethodName := ⟨RX6, "next", "()V"⟩
abbrev cX6_take : ByteArray := prog_8_method_9_code
def yX6_take : MethodName := ⟨RX6, "take", "(Z)V"⟩
abbrev cX6_takeEnd : ByteArray := prog_8_method_10_code
def yX6_takeEnd : MethodName := ⟨RX6, "takeEnd", "()V"⟩
abbrev cX6_wordName : ByteArray := prog_8_method_11_code
def yX6_wordName : MethodName := ⟨RX6, "wordName", "()J"⟩
abbrev cX6_whole : ByteArray := prog_8_method_12_code
def yX6_whole : MethodName := ⟨RX6, "whole", "()I"⟩
abbrev cX6_isPattern : ByteArray := prog_8_method_13_code
def yX6_isPattern : MethodName := ⟨RX6, "isPattern", "()Z"⟩
abbrev cX6_takeWhole : ByteArray := prog_8_method_14_code
def yX6_takeWhole : MethodName := ⟨RX6, "takeWhole", "(II)I"⟩
abbrev cX6_takePattern : ByteArray := prog_8_method_15_code
def yX6_takePattern : MethodName := ⟨RX6, "takePattern", "(IIZ)V"⟩
abbrev cX6_word : ByteArray := prog_8_method_16_code
def yX6_word : MethodName := ⟨RX6, "word", "(IIIIII)J"⟩
abbrev cX6_wordOf : ByteArray := prog_8_method_17_code
def yX6_wordOf : MethodName := ⟨RX6, "wordOf", "(I)J"⟩
abbrev cX6_sortOf : ByteArray := prog_8_method_18_code
def yX6_sortOf : MethodName := ⟨RX6, "sortOf", "(J)I"⟩
abbrev cX6_clockOf : ByteArray := prog_8_method_19_code
def yX6_clockOf : MethodName := ⟨RX6, "clockOf", "(J)I"⟩
abbrev cX6_takeNew : ByteArray := prog_8_method_20_code
def yX6_takeNew : MethodName := ⟨RX6, "takeNew", "(I)V"⟩
abbrev cX6_takeOld : ByteArray := prog_8_method_21_code
def yX6_takeOld : MethodName := ⟨RX6, "takeOld", "(IZ)V"⟩
abbrev cX6_readClock : ByteArray := prog_8_method_22_code
def yX6_readClock : MethodName := ⟨RX6, "readClock", "(I)V"⟩
abbrev cX6_readDerived : ByteArray := prog_8_method_23_code
def yX6_readDerived : MethodName := ⟨RX6, "readDerived", "(I)V"⟩
abbrev cX6_readException : ByteArray := prog_8_method_24_code
def yX6_readException : MethodName := ⟨RX6, "readException", "(I)V"⟩
abbrev cX6_readRow : ByteArray := prog_8_method_25_code
def yX6_readRow : MethodName := ⟨RX6, "readRow", "()V"⟩
abbrev cX6_unknown : ByteArray := prog_8_method_26_code
def yX6_unknown : MethodName := ⟨RX6, "unknown", "()I"⟩
abbrev cX6_findFrom : ByteArray := prog_8_method_27_code
def yX6_findFrom : MethodName := ⟨RX6, "findFrom", "()V"⟩
abbrev cX6_ring : ByteArray := prog_8_method_28_code
def yX6_ring : MethodName := ⟨RX6, "ring", "()I"⟩
abbrev cX6_common : ByteArray := prog_8_method_29_code
def yX6_common : MethodName := ⟨RX6, "common", "(JJ)J"⟩
abbrev cX6_reckon : ByteArray := prog_8_method_30_code
def yX6_reckon : MethodName := ⟨RX6, "reckon", "(I)V"⟩
abbrev cX6_depth : ByteArray := prog_8_method_31_code
def yX6_depth : MethodName := ⟨RX6, "depth", "(I)I"⟩
abbrev cX6_greatOne : ByteArray := prog_8_method_32_code
def yX6_greatOne : MethodName := ⟨RX6, "greatOne", "()I"⟩
abbrev cX6_read : ByteArray := prog_8_method_33_code
def yX6_read : MethodName := ⟨RX6, "read", "()I"⟩
abbrev cX6_adopt : ByteArray := prog_8_method_34_code
def yX6_adopt : MethodName := ⟨RX6, "adopt", "()V"⟩
abbrev cX6_matches : ByteArray := prog_8_method_35_code
def yX6_matches : MethodName := ⟨RX6, "matches", "(III)Z"⟩
abbrev cX6_matched : ByteArray := prog_8_method_36_code
def yX6_matched : MethodName := ⟨RX6, "matched", "(II)I"⟩
abbrev cX6_isClock : ByteArray := prog_8_method_37_code
def yX6_isClock : MethodName := ⟨RX6, "isClock", "(I)Z"⟩
abbrev cX6_clock : ByteArray := prog_8_method_38_code
def yX6_clock : MethodName := ⟨RX6, "clock", "(II)I"⟩
abbrev cX6_part : ByteArray := prog_8_method_39_code
def yX6_part : MethodName := ⟨RX6, "part", "(JJI)J"⟩
abbrev cX6_edge : ByteArray := prog_8_method_40_code
def yX6_edge : MethodName := ⟨RX6, "edge", "(III)J"⟩
abbrev cX6_areApart : ByteArray := prog_8_method_41_code
def yX6_areApart : MethodName := ⟨RX6, "areApart", "(II)Z"⟩
abbrev cX6_distance : ByteArray := prog_8_method_42_code
def yX6_distance : MethodName := ⟨RX6, "distance", "(III)J"⟩
abbrev cX6_fits : ByteArray := prog_8_method_43_code
def yX6_fits : MethodName := ⟨RX6, "fits", "(III)Z"⟩
abbrev cX6_strength : ByteArray := prog_8_method_44_code
def yX6_strength : MethodName := ⟨RX6, "strength", "(I)I"⟩
abbrev cX6_isPin : ByteArray := prog_8_method_45_code
def yX6_isPin : MethodName := ⟨RX6, "isPin", "(I)Z"⟩
abbrev cX6_exception : ByteArray := prog_8_method_46_code
def yX6_exception : MethodName := ⟨RX6, "exception", "(III)I"⟩
abbrev cX6_row : ByteArray := prog_8_method_47_code
def yX6_row : MethodName := ⟨RX6, "row", "(II)I"⟩
abbrev cX6_load : ByteArray := prog_8_method_48_code
def yX6_load : MethodName := ⟨RX6, "load", "(II)I"⟩
abbrev cX6_isUnmatched : ByteArray := prog_8_method_49_code
def yX6_isUnmatched : MethodName := ⟨RX6, "isUnmatched", "(I)Z"⟩
abbrev cX6_unmatched : ByteArray := prog_8_method_50_code
def yX6_unmatched : MethodName := ⟨RX6, "unmatched", "(I)I"⟩
abbrev cX6_areClashing : ByteArray := prog_8_method_51_code
def yX6_areClashing : MethodName := ⟨RX6, "areClashing", "(II)Z"⟩
abbrev cX6_clash : ByteArray := prog_8_method_52_code
def yX6_clash : MethodName := ⟨RX6, "clash", "(II)I"⟩
abbrev cX6_put : ByteArray := prog_8_method_53_code
def yX6_put : MethodName := ⟨RX6, "put", "(I)V"⟩
abbrev cX6_putWord : ByteArray := prog_8_method_54_code
def yX6_putWord : MethodName := ⟨RX6, "putWord", "(J)V"⟩
abbrev cX6_putWhole : ByteArray := prog_8_method_55_code
def yX6_putWhole : MethodName := ⟨RX6, "putWhole", "(I)V"⟩
abbrev cX6_putPattern : ByteArray := prog_8_method_56_code
def yX6_putPattern : MethodName := ⟨RX6, "putPattern", "(II)V"⟩
abbrev cX6_print : ByteArray := prog_8_method_57_code
def yX6_print : MethodName := ⟨RX6, "print", "(I)V"⟩
abbrev cX6_printAll : ByteArray := prog_8_method_58_code
def yX6_printAll : MethodName := ⟨RX6, "printAll", "(I)V"⟩
abbrev cX6_write : ByteArray := prog_8_method_59_code
def yX6_write : MethodName := ⟨RX6, "write", "(I)I"⟩
abbrev cX6_count : ByteArray := prog_8_method_60_code
def yX6_count : MethodName := ⟨RX6, "count", "(I)I"⟩
def RJ13 : String := "java/lang/Long"
def TJ13 : u_T := fun k => match k with
  | _ => ("", "", "", false)
def tyJ13 : Nat → FieldType := fun k => match k with
  | _ => .int
theorem nmJ13 : ∀ a, a < 0 → ∀ b, b < 0 → a ≠ b → (TJ13 a).2.1 ≠ (TJ13 b).2.1 := by decide +kernel
theorem tyJ13_ok : ∀ k, k < 0 → parseFieldDescriptor (TJ13 k).2.2.1 = some (tyJ13 k) := by decide +kernel
abbrev cJ13_bitCount_95d88 : ByteArray := prog_11_method_50_code
def yJ13_bitCount_95d88 : MethodName := ⟨RJ13, "bitCount", "(J)I"⟩
def RJ9 : String := "java/lang/Math"
def TJ9 : u_T := fun k => match k with
  | _ => ("", "", "", false)
def tyJ9 : Nat → FieldType := fun k => match k with
  | _ => .int
theorem nmJ9 : ∀ a, a < 0 → ∀ b, b < 0 → a ≠ b → (TJ9 a).2.1 ≠ (TJ9 b).2.1 := by decide +kernel
theorem tyJ9_ok : ∀ k, k < 0 → parseFieldDescriptor (TJ9 k).2.2.1 = some (tyJ9 k) := by decide +kernel
abbrev cJ9_floorMod_f86c9 : ByteArray := prog_12_method_52_code
def yJ9_floorMod_f86c9 : MethodName := ⟨RJ9, "floorMod", "(JJ)J"⟩
def RJ0 : String := "java/lang/String"
def TJ0 : u_T := fun k => match k with
  | _ => ("", "", "", false)
def tyJ0 : Nat → FieldType := fun k => match k with
  | _ => .int
theorem nmJ0 : ∀ a, a < 0 → ∀ b, b < 0 → a ≠ b → (TJ0 a).2.1 ≠ (TJ0 b).2.1 := by decide +kernel
theorem tyJ0_ok : ∀ k, k < 0 → parseFieldDescriptor (TJ0 k).2.2.1 = some (tyJ0 k) := by decide +kernel
abbrev cJ0_length_8abf5 : ByteArray := prog_14_method_54_code
def yJ0_length_8abf5 : MethodName := ⟨RJ0, "length", "()I"⟩
abbrev cJ0_charAt_5068e : ByteArray := prog_14_method_56_code
def yJ0_charAt_5068e : MethodName := ⟨RJ0, "charAt", "(I)C"⟩
abbrev cJ0_coder_7d493 : ByteArray := prog_14_method_152_code
def yJ0_coder_7d493 : MethodName := ⟨RJ0, "coder", "()B"⟩
abbrev cJ0_isLatin1_aae02 : ByteArray := prog_14_method_154_code
def yJ0_isLatin1_aae02 : MethodName := ⟨RJ0, "isLatin1", "()Z"⟩
abbrev cJ0_checkIndex_df160 : ByteArray := prog_14_method_155_code
def yJ0_checkIndex_df160 : MethodName := ⟨RJ0, "checkIndex", "(II)V"⟩
def RJ1 : String := "java/lang/StringLatin1"
def TJ1 : u_T := fun k => match k with
  | _ => ("", "", "", false)
def tyJ1 : Nat → FieldType := fun k => match k with
  | _ => .int
theorem nmJ1 : ∀ a, a < 0 → ∀ b, b < 0 → a ≠ b → (TJ1 a).2.1 ≠ (TJ1 b).2.1 := by decide +kernel
theorem tyJ1_ok : ∀ k, k < 0 → parseFieldDescriptor (TJ1 k).2.2.1 = some (tyJ1 k) := by decide +kernel
abbrev cJ1_charAt_3b067 : ByteArray := prog_15_method_2_code
def yJ1_charAt_3b067 : MethodName := ⟨RJ1, "charAt", "([BI)C"⟩
def RJ2 : String := "java/lang/StringUTF16"
def TJ2 : u_T := fun k => match k with
  | _ => ("", "", "", false)
def tyJ2 : Nat → FieldType := fun k => match k with
  | _ => .int
theorem nmJ2 : ∀ a, a < 0 → ∀ b, b < 0 → a ≠ b → (TJ2 a).2.1 ≠ (TJ2 b).2.1 := by decide +kernel
theorem tyJ2_ok : ∀ k, k < 0 → parseFieldDescriptor (TJ2 k).2.2.1 = some (tyJ2 k) := by decide +kernel
abbrev cJ2_getChar_3b067 : ByteArray := prog_16_method_5_code
def yJ2_getChar_3b067 : MethodName := ⟨RJ2, "getChar", "([BI)C"⟩
abbrev cJ2_length_9d52b : ByteArray := prog_16_method_6_code
def yJ2_length_9d52b : MethodName := ⟨RJ2, "length", "([B)I"⟩
abbrev cJ2_charAt_3b067 : ByteArray := prog_16_method_83_code
def yJ2_charAt_3b067 : MethodName := ⟨RJ2, "charAt", "([BI)C"⟩
abbrev cJ2_checkIndex_2214a : ByteArray := prog_16_method_91_code
def yJ2_checkIndex_2214a : MethodName := ⟨RJ2, "checkIndex", "(I[B)V"⟩
def RJ7 : String := "java/util/Arrays"
def TJ7 : u_T := fun k => match k with
  | _ => ("", "", "", false)
def tyJ7 : Nat → FieldType := fun k => match k with
  | _ => .int
theorem nmJ7 : ∀ a, a < 0 → ∀ b, b < 0 → a ≠ b → (TJ7 a).2.1 ≠ (TJ7 b).2.1 := by decide +kernel
theorem tyJ7_ok : ∀ k, k < 0 → parseFieldDescriptor (TJ7 k).2.2.1 = some (tyJ7 k) := by decide +kernel
abbrev cJ7_fill_53178 : ByteArray := prog_18_method_103_code
def yJ7_fill_53178 : MethodName := ⟨RJ7, "fill", "([II)V"⟩
def RJ3 : String := "jdk/internal/util/Preconditions"
def TJ3 : u_T := fun k => match k with
  | _ => ("", "", "", false)
def tyJ3 : Nat → FieldType := fun k => match k with
  | _ => .int
theorem nmJ3 : ∀ a, a < 0 → ∀ b, b < 0 → a ≠ b → (TJ3 a).2.1 ≠ (TJ3 b).2.1 := by decide +kernel
theorem tyJ3_ok : ∀ k, k < 0 → parseFieldDescriptor (TJ3 k).2.2.1 = some (tyJ3 k) := by decide +kernel
abbrev cJ3_checkIndex_8e157 : ByteArray := prog_19_method_11_code
def yJ3_checkIndex_8e157 : MethodName := ⟨RJ3, "checkIndex", "(IILjava/util/function/BiFunction;)I"⟩
def RL : String := "ConstraintTextLaw"
abbrev cL_name : ByteArray := method_3_code
def yL_name : MethodName := ⟨RL, "name", "(LConstraintText;II[J)I"⟩
abbrev cL_clock : ByteArray := method_4_code
def yL_clock : MethodName := ⟨RL, "clock", "(LConstraintText;II[J)I"⟩
abbrev cL_edge : ByteArray := method_5_code
def yL_edge : MethodName := ⟨RL, "edge", "(LConstraintText;III[J)I"⟩
abbrev cL_distance : ByteArray := method_6_code
def yL_distance : MethodName := ⟨RL, "distance", "(LConstraintText;III[J)I"⟩
abbrev cL_exception : ByteArray := method_7_code
def yL_exception : MethodName := ⟨RL, "exception", "(LConstraintText;III[J)I"⟩
abbrev cL_row : ByteArray := method_8_code
def yL_row : MethodName := ⟨RL, "row", "(LConstraintText;II[J)I"⟩
abbrev cL_load : ByteArray := method_9_code
def yL_load : MethodName := ⟨RL, "load", "(LConstraintText;II[J)I"⟩
abbrev cL_unmatched : ByteArray := method_10_code
def yL_unmatched : MethodName := ⟨RL, "unmatched", "(LConstraintText;I[J)I"⟩
abbrev cL_clash : ByteArray := method_11_code
def yL_clash : MethodName := ⟨RL, "clash", "(LConstraintText;II[J)I"⟩
abbrev cL_write : ByteArray := method_12_code
def yL_write : MethodName := ⟨RL, "write", "(LConstraintText;I[J)I"⟩
abbrev cL_count : ByteArray := method_13_code
def yL_count : MethodName := ⟨RL, "count", "(LConstraintText;I[J)I"⟩
abbrev cL_law : ByteArray := code
def yL_law : MethodName := ⟨RL, "law", "([I)Z"⟩
abbrev vwCl : List vw_C := [(RX0, TX0, 12), (RX1, TX1, 2), (RX2, TX2, 8), (RX3, TX3, 10), (RX4, TX4, 2), (RX5, TX5, 4), (RX6, TX6, 33)]
