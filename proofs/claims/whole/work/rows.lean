section
-- ===== PART A: goes FIRST, ahead of the names: the tables' words, and 'selects' of the private methods out of them =====
/-- a private method of a class that the tables say can be made, by its rows of tables_1 -/
def lw_okq (q : MethodName × Nat) : Prop := (q.1.cls ≠ "java/lang/invoke/MethodHandle" ∧ q.1.cls ≠ "java/lang/invoke/VarHandle") ∧ Cond.instantiable q.1.cls q.2 ∈ tables_1 ∧ Cond.privateMethod q.1 ∈ tables_1 ∧ Cond.instanceMethod q.1 ∈ tables_1
theorem lw_p0 : lw_okq (⟨"ConstraintText$Reader", "takeWord", "()V"⟩, 8) := ⟨⟨by decide +kernel, by decide +kernel⟩, List.mem_of_getElem? (i := 28) (by decide +kernel), List.mem_of_getElem? (i := 239) (by decide +kernel), List.mem_of_getElem? (i := 240) (by decide +kernel)⟩
theorem lw_p1 : lw_okq (⟨"ConstraintText$Reader", "takeRow", "()Z"⟩, 8) := ⟨⟨by decide +kernel, by decide +kernel⟩, List.mem_of_getElem? (i := 28) (by decide +kernel), List.mem_of_getElem? (i := 250) (by decide +kernel), List.mem_of_getElem? (i := 251) (by decide +kernel)⟩
theorem lw_p2 : lw_okq (⟨"ConstraintText$Reader", "sortInHand", "()I"⟩, 8) := ⟨⟨by decide +kernel, by decide +kernel⟩, List.mem_of_getElem? (i := 28) (by decide +kernel), List.mem_of_getElem? (i := 254) (by decide +kernel), List.mem_of_getElem? (i := 255) (by decide +kernel)⟩
theorem lw_p3 : lw_okq (⟨"ConstraintText$Reader", "isInHand", "(Ljava/lang/String;)Z"⟩, 8) := ⟨⟨by decide +kernel, by decide +kernel⟩, List.mem_of_getElem? (i := 28) (by decide +kernel), List.mem_of_getElem? (i := 271) (by decide +kernel), List.mem_of_getElem? (i := 272) (by decide +kernel)⟩
theorem lw_p4 : lw_okq (⟨"ConstraintText$Reader", "printWord", "()V"⟩, 8) := ⟨⟨by decide +kernel, by decide +kernel⟩, List.mem_of_getElem? (i := 28) (by decide +kernel), List.mem_of_getElem? (i := 327) (by decide +kernel), List.mem_of_getElem? (i := 328) (by decide +kernel)⟩
theorem lw_p5 : lw_okq (⟨"ConstraintText$Reader", "takeNewClock", "()Z"⟩, 8) := ⟨⟨by decide +kernel, by decide +kernel⟩, List.mem_of_getElem? (i := 28) (by decide +kernel), List.mem_of_getElem? (i := 344) (by decide +kernel), List.mem_of_getElem? (i := 345) (by decide +kernel)⟩
theorem lw_p6 : lw_okq (⟨"ConstraintText$Reader", "isNameInHand", "()Z"⟩, 8) := ⟨⟨by decide +kernel, by decide +kernel⟩, List.mem_of_getElem? (i := 28) (by decide +kernel), List.mem_of_getElem? (i := 348) (by decide +kernel), List.mem_of_getElem? (i := 349) (by decide +kernel)⟩
theorem lw_p7 : lw_okq (⟨"ConstraintText$Reader", "clockNamed", "(II)I"⟩, 8) := ⟨⟨by decide +kernel, by decide +kernel⟩, List.mem_of_getElem? (i := 28) (by decide +kernel), List.mem_of_getElem? (i := 355) (by decide +kernel), List.mem_of_getElem? (i := 356) (by decide +kernel)⟩
theorem lw_p8 : lw_okq (⟨"ConstraintText$Reader", "isSameText", "(III)Z"⟩, 8) := ⟨⟨by decide +kernel, by decide +kernel⟩, List.mem_of_getElem? (i := 28) (by decide +kernel), List.mem_of_getElem? (i := 359) (by decide +kernel), List.mem_of_getElem? (i := 360) (by decide +kernel)⟩
theorem lw_p9 : lw_okq (⟨"ConstraintText$Reader", "takeTimes", "()Z"⟩, 8) := ⟨⟨by decide +kernel, by decide +kernel⟩, List.mem_of_getElem? (i := 28) (by decide +kernel), List.mem_of_getElem? (i := 367) (by decide +kernel), List.mem_of_getElem? (i := 368) (by decide +kernel)⟩
theorem lw_p10 : lw_okq (⟨"ConstraintText$Reader", "takeWhole", "(II)I"⟩, 8) := ⟨⟨by decide +kernel, by decide +kernel⟩, List.mem_of_getElem? (i := 28) (by decide +kernel), List.mem_of_getElem? (i := 372) (by decide +kernel), List.mem_of_getElem? (i := 373) (by decide +kernel)⟩
theorem lw_p11 : lw_okq (⟨"ConstraintText$Reader", "wholeInHand", "()I"⟩, 8) := ⟨⟨by decide +kernel, by decide +kernel⟩, List.mem_of_getElem? (i := 28) (by decide +kernel), List.mem_of_getElem? (i := 376) (by decide +kernel), List.mem_of_getElem? (i := 377) (by decide +kernel)⟩
theorem lw_p12 : lw_okq (⟨"ConstraintText$Reader", "takePattern", "(I)Z"⟩, 8) := ⟨⟨by decide +kernel, by decide +kernel⟩, List.mem_of_getElem? (i := 28) (by decide +kernel), List.mem_of_getElem? (i := 397) (by decide +kernel), List.mem_of_getElem? (i := 398) (by decide +kernel)⟩
theorem lw_p13 : lw_okq (⟨"ConstraintText$Reader", "keepPattern", "(I)Z"⟩, 8) := ⟨⟨by decide +kernel, by decide +kernel⟩, List.mem_of_getElem? (i := 28) (by decide +kernel), List.mem_of_getElem? (i := 401) (by decide +kernel), List.mem_of_getElem? (i := 402) (by decide +kernel)⟩
theorem lw_p14 : lw_okq (⟨"ConstraintText$Reader", "isPatternInHand", "()Z"⟩, 8) := ⟨⟨by decide +kernel, by decide +kernel⟩, List.mem_of_getElem? (i := 28) (by decide +kernel), List.mem_of_getElem? (i := 405) (by decide +kernel), List.mem_of_getElem? (i := 406) (by decide +kernel)⟩
theorem lw_p15 : lw_okq (⟨"ConstraintText$Sheet", "patternOf", "(II)I"⟩, 10) := ⟨⟨by decide +kernel, by decide +kernel⟩, List.mem_of_getElem? (i := 50) (by decide +kernel), List.mem_of_getElem? (i := 418) (by decide +kernel), List.mem_of_getElem? (i := 419) (by decide +kernel)⟩
def lw_privs_1 : List (MethodName × Nat) := [(⟨"ConstraintText$Reader", "takeWord", "()V"⟩, 8), (⟨"ConstraintText$Reader", "takeRow", "()Z"⟩, 8), (⟨"ConstraintText$Reader", "sortInHand", "()I"⟩, 8), (⟨"ConstraintText$Reader", "isInHand", "(Ljava/lang/String;)Z"⟩, 8), (⟨"ConstraintText$Reader", "printWord", "()V"⟩, 8), (⟨"ConstraintText$Reader", "takeNewClock", "()Z"⟩, 8), (⟨"ConstraintText$Reader", "isNameInHand", "()Z"⟩, 8), (⟨"ConstraintText$Reader", "clockNamed", "(II)I"⟩, 8), (⟨"ConstraintText$Reader", "isSameText", "(III)Z"⟩, 8), (⟨"ConstraintText$Reader", "takeTimes", "()Z"⟩, 8), (⟨"ConstraintText$Reader", "takeWhole", "(II)I"⟩, 8), (⟨"ConstraintText$Reader", "wholeInHand", "()I"⟩, 8), (⟨"ConstraintText$Reader", "takePattern", "(I)Z"⟩, 8), (⟨"ConstraintText$Reader", "keepPattern", "(I)Z"⟩, 8), (⟨"ConstraintText$Reader", "isPatternInHand", "()Z"⟩, 8), (⟨"ConstraintText$Sheet", "patternOf", "(II)I"⟩, 10)]
theorem lw_r1 : ∀ q ∈ lw_privs_1, lw_okq q := List.forall_mem_cons.mpr ⟨lw_p0, List.forall_mem_cons.mpr ⟨lw_p1, List.forall_mem_cons.mpr ⟨lw_p2, List.forall_mem_cons.mpr ⟨lw_p3, List.forall_mem_cons.mpr ⟨lw_p4, List.forall_mem_cons.mpr ⟨lw_p5, List.forall_mem_cons.mpr ⟨lw_p6, List.forall_mem_cons.mpr ⟨lw_p7, List.forall_mem_cons.mpr ⟨lw_p8, List.forall_mem_cons.mpr ⟨lw_p9, List.forall_mem_cons.mpr ⟨lw_p10, List.forall_mem_cons.mpr ⟨lw_p11, List.forall_mem_cons.mpr ⟨lw_p12, List.forall_mem_cons.mpr ⟨lw_p13, List.forall_mem_cons.mpr ⟨lw_p14, List.forall_mem_cons.mpr ⟨lw_p15, fun _ h => absurd h List.not_mem_nil⟩⟩⟩⟩⟩⟩⟩⟩⟩⟩⟩⟩⟩⟩⟩⟩
theorem lw_p16 : lw_okq (⟨"ConstraintText$Reader", "takeLink", "(I)Z"⟩, 8) := ⟨⟨by decide +kernel, by decide +kernel⟩, List.mem_of_getElem? (i := 28) (by decide +kernel), List.mem_of_getElem? (i := 422) (by decide +kernel), List.mem_of_getElem? (i := 423) (by decide +kernel)⟩
theorem lw_p17 : lw_okq (⟨"ConstraintText$Reader", "takeRatio", "(Z)Z"⟩, 8) := ⟨⟨by decide +kernel, by decide +kernel⟩, List.mem_of_getElem? (i := 28) (by decide +kernel), List.mem_of_getElem? (i := 426) (by decide +kernel), List.mem_of_getElem? (i := 427) (by decide +kernel)⟩
theorem lw_p18 : lw_okq (⟨"ConstraintText$Reader", "takePath", "()Z"⟩, 8) := ⟨⟨by decide +kernel, by decide +kernel⟩, List.mem_of_getElem? (i := 28) (by decide +kernel), List.mem_of_getElem? (i := 434) (by decide +kernel), List.mem_of_getElem? (i := 435) (by decide +kernel)⟩
theorem lw_p19 : lw_okq (⟨"ConstraintText$Reader", "isAnyInHand", "()Z"⟩, 8) := ⟨⟨by decide +kernel, by decide +kernel⟩, List.mem_of_getElem? (i := 28) (by decide +kernel), List.mem_of_getElem? (i := 438) (by decide +kernel), List.mem_of_getElem? (i := 439) (by decide +kernel)⟩
theorem lw_p20 : lw_okq (⟨"ConstraintText$Sheet", "hasPattern", "(II)Z"⟩, 10) := ⟨⟨by decide +kernel, by decide +kernel⟩, List.mem_of_getElem? (i := 50) (by decide +kernel), List.mem_of_getElem? (i := 446) (by decide +kernel), List.mem_of_getElem? (i := 447) (by decide +kernel)⟩
theorem lw_p21 : lw_okq (⟨"ConstraintText$Reader", "takeValue", "(II)Z"⟩, 8) := ⟨⟨by decide +kernel, by decide +kernel⟩, List.mem_of_getElem? (i := 28) (by decide +kernel), List.mem_of_getElem? (i := 450) (by decide +kernel), List.mem_of_getElem? (i := 451) (by decide +kernel)⟩
theorem lw_p22 : lw_okq (⟨"ConstraintText$Reader", "takeEnd", "()Z"⟩, 8) := ⟨⟨by decide +kernel, by decide +kernel⟩, List.mem_of_getElem? (i := 28) (by decide +kernel), List.mem_of_getElem? (i := 458) (by decide +kernel), List.mem_of_getElem? (i := 459) (by decide +kernel)⟩
theorem lw_p23 : lw_okq (⟨"ConstraintText$Reader", "bindLinks", "()Z"⟩, 8) := ⟨⟨by decide +kernel, by decide +kernel⟩, List.mem_of_getElem? (i := 28) (by decide +kernel), List.mem_of_getElem? (i := 462) (by decide +kernel), List.mem_of_getElem? (i := 463) (by decide +kernel)⟩
theorem lw_p24 : lw_okq (⟨"ConstraintText$Reader", "hasNoRing", "()Z"⟩, 8) := ⟨⟨by decide +kernel, by decide +kernel⟩, List.mem_of_getElem? (i := 28) (by decide +kernel), List.mem_of_getElem? (i := 470) (by decide +kernel), List.mem_of_getElem? (i := 471) (by decide +kernel)⟩
theorem lw_p25 : lw_okq (⟨"ConstraintText$Reader", "hasNoneGreat", "()Z"⟩, 8) := ⟨⟨by decide +kernel, by decide +kernel⟩, List.mem_of_getElem? (i := 28) (by decide +kernel), List.mem_of_getElem? (i := 478) (by decide +kernel), List.mem_of_getElem? (i := 479) (by decide +kernel)⟩
theorem lw_p26 : lw_okq (⟨"ConstraintText$ClockTable", "settle", "(II)V"⟩, 12) := ⟨⟨by decide +kernel, by decide +kernel⟩, List.mem_of_getElem? (i := 56) (by decide +kernel), List.mem_of_getElem? (i := 486) (by decide +kernel), List.mem_of_getElem? (i := 487) (by decide +kernel)⟩
theorem lw_p27 : lw_okq (⟨"ConstraintText$Sheet", "fits", "(ILConstraintText$Pins;I)Z"⟩, 10) := ⟨⟨by decide +kernel, by decide +kernel⟩, List.mem_of_getElem? (i := 50) (by decide +kernel), List.mem_of_getElem? (i := 507) (by decide +kernel), List.mem_of_getElem? (i := 508) (by decide +kernel)⟩
theorem lw_p28 : lw_okq (⟨"ConstraintText$Sheet", "reachedByStars", "(I)I"⟩, 10) := ⟨⟨by decide +kernel, by decide +kernel⟩, List.mem_of_getElem? (i := 50) (by decide +kernel), List.mem_of_getElem? (i := 518) (by decide +kernel), List.mem_of_getElem? (i := 519) (by decide +kernel)⟩
theorem lw_p29 : lw_okq (⟨"ConstraintText$Sheet", "reachedBy", "(III)I"⟩, 10) := ⟨⟨by decide +kernel, by decide +kernel⟩, List.mem_of_getElem? (i := 50) (by decide +kernel), List.mem_of_getElem? (i := 527) (by decide +kernel), List.mem_of_getElem? (i := 528) (by decide +kernel)⟩
theorem lw_p30 : lw_okq (⟨"java/lang/Throwable", "fillInStackTrace", "(I)Ljava/lang/Throwable;"⟩, 6) := ⟨⟨by decide +kernel, by decide +kernel⟩, List.mem_of_getElem? (i := 577) (by decide +kernel), List.mem_of_getElem? (i := 575) (by decide +kernel), List.mem_of_getElem? (i := 576) (by decide +kernel)⟩
theorem lw_p31 : lw_okq (⟨"ConstraintText$Sheet", "admits", "(III)Z"⟩, 10) := ⟨⟨by decide +kernel, by decide +kernel⟩, List.mem_of_getElem? (i := 50) (by decide +kernel), List.mem_of_getElem? (i := 688) (by decide +kernel), List.mem_of_getElem? (i := 689) (by decide +kernel)⟩
def lw_privs_2 : List (MethodName × Nat) := [(⟨"ConstraintText$Reader", "takeLink", "(I)Z"⟩, 8), (⟨"ConstraintText$Reader", "takeRatio", "(Z)Z"⟩, 8), (⟨"ConstraintText$Reader", "takePath", "()Z"⟩, 8), (⟨"ConstraintText$Reader", "isAnyInHand", "()Z"⟩, 8), (⟨"ConstraintText$Sheet", "hasPattern", "(II)Z"⟩, 10), (⟨"ConstraintText$Reader", "takeValue", "(II)Z"⟩, 8), (⟨"ConstraintText$Reader", "takeEnd", "()Z"⟩, 8), (⟨"ConstraintText$Reader", "bindLinks", "()Z"⟩, 8), (⟨"ConstraintText$Reader", "hasNoRing", "()Z"⟩, 8), (⟨"ConstraintText$Reader", "hasNoneGreat", "()Z"⟩, 8), (⟨"ConstraintText$ClockTable", "settle", "(II)V"⟩, 12), (⟨"ConstraintText$Sheet", "fits", "(ILConstraintText$Pins;I)Z"⟩, 10), (⟨"ConstraintText$Sheet", "reachedByStars", "(I)I"⟩, 10), (⟨"ConstraintText$Sheet", "reachedBy", "(III)I"⟩, 10), (⟨"java/lang/Throwable", "fillInStackTrace", "(I)Ljava/lang/Throwable;"⟩, 6), (⟨"ConstraintText$Sheet", "admits", "(III)Z"⟩, 10)]
theorem lw_r2 : ∀ q ∈ lw_privs_2, lw_okq q := List.forall_mem_cons.mpr ⟨lw_p16, List.forall_mem_cons.mpr ⟨lw_p17, List.forall_mem_cons.mpr ⟨lw_p18, List.forall_mem_cons.mpr ⟨lw_p19, List.forall_mem_cons.mpr ⟨lw_p20, List.forall_mem_cons.mpr ⟨lw_p21, List.forall_mem_cons.mpr ⟨lw_p22, List.forall_mem_cons.mpr ⟨lw_p23, List.forall_mem_cons.mpr ⟨lw_p24, List.forall_mem_cons.mpr ⟨lw_p25, List.forall_mem_cons.mpr ⟨lw_p26, List.forall_mem_cons.mpr ⟨lw_p27, List.forall_mem_cons.mpr ⟨lw_p28, List.forall_mem_cons.mpr ⟨lw_p29, List.forall_mem_cons.mpr ⟨lw_p30, List.forall_mem_cons.mpr ⟨lw_p31, fun _ h => absurd h List.not_mem_nil⟩⟩⟩⟩⟩⟩⟩⟩⟩⟩⟩⟩⟩⟩⟩⟩
theorem lw_p32 : lw_okq (⟨"ConstraintText$Sheet", "matches", "(III)Z"⟩, 10) := ⟨⟨by decide +kernel, by decide +kernel⟩, List.mem_of_getElem? (i := 50) (by decide +kernel), List.mem_of_getElem? (i := 692) (by decide +kernel), List.mem_of_getElem? (i := 693) (by decide +kernel)⟩
theorem lw_p33 : lw_okq (⟨"ConstraintText$Sheet", "weightOf", "(I)I"⟩, 10) := ⟨⟨by decide +kernel, by decide +kernel⟩, List.mem_of_getElem? (i := 50) (by decide +kernel), List.mem_of_getElem? (i := 697) (by decide +kernel), List.mem_of_getElem? (i := 698) (by decide +kernel)⟩
theorem lw_p34 : lw_okq (⟨"ConstraintText$Sheet", "isIdle", "(I)Z"⟩, 10) := ⟨⟨by decide +kernel, by decide +kernel⟩, List.mem_of_getElem? (i := 50) (by decide +kernel), List.mem_of_getElem? (i := 733) (by decide +kernel), List.mem_of_getElem? (i := 734) (by decide +kernel)⟩
theorem lw_p35 : lw_okq (⟨"ConstraintText$Sheet", "haveClash", "(II)Z"⟩, 10) := ⟨⟨by decide +kernel, by decide +kernel⟩, List.mem_of_getElem? (i := 50) (by decide +kernel), List.mem_of_getElem? (i := 749) (by decide +kernel), List.mem_of_getElem? (i := 750) (by decide +kernel)⟩
theorem lw_p36 : lw_okq (⟨"ConstraintTextModel", "next", "()V"⟩, 33) := ⟨⟨by decide +kernel, by decide +kernel⟩, List.mem_of_getElem? (i := 772) (by decide +kernel), List.mem_of_getElem? (i := 904) (by decide +kernel), List.mem_of_getElem? (i := 905) (by decide +kernel)⟩
theorem lw_p37 : lw_okq (⟨"ConstraintTextModel", "readRow", "()V"⟩, 33) := ⟨⟨by decide +kernel, by decide +kernel⟩, List.mem_of_getElem? (i := 772) (by decide +kernel), List.mem_of_getElem? (i := 908) (by decide +kernel), List.mem_of_getElem? (i := 909) (by decide +kernel)⟩
theorem lw_p38 : lw_okq (⟨"ConstraintTextModel", "wordName", "()J"⟩, 33) := ⟨⟨by decide +kernel, by decide +kernel⟩, List.mem_of_getElem? (i := 772) (by decide +kernel), List.mem_of_getElem? (i := 912) (by decide +kernel), List.mem_of_getElem? (i := 913) (by decide +kernel)⟩
theorem lw_p39 : lw_okq (⟨"ConstraintTextModel", "sortOf", "(J)I"⟩, 33) := ⟨⟨by decide +kernel, by decide +kernel⟩, List.mem_of_getElem? (i := 772) (by decide +kernel), List.mem_of_getElem? (i := 918) (by decide +kernel), List.mem_of_getElem? (i := 919) (by decide +kernel)⟩
theorem lw_p40 : lw_okq (⟨"ConstraintTextModel", "take", "(Z)V"⟩, 33) := ⟨⟨by decide +kernel, by decide +kernel⟩, List.mem_of_getElem? (i := 772) (by decide +kernel), List.mem_of_getElem? (i := 928) (by decide +kernel), List.mem_of_getElem? (i := 929) (by decide +kernel)⟩
theorem lw_p41 : lw_okq (⟨"ConstraintTextModel", "readClock", "(I)V"⟩, 33) := ⟨⟨by decide +kernel, by decide +kernel⟩, List.mem_of_getElem? (i := 772) (by decide +kernel), List.mem_of_getElem? (i := 932) (by decide +kernel), List.mem_of_getElem? (i := 933) (by decide +kernel)⟩
theorem lw_p42 : lw_okq (⟨"ConstraintTextModel", "takeNew", "(I)V"⟩, 33) := ⟨⟨by decide +kernel, by decide +kernel⟩, List.mem_of_getElem? (i := 772) (by decide +kernel), List.mem_of_getElem? (i := 936) (by decide +kernel), List.mem_of_getElem? (i := 937) (by decide +kernel)⟩
theorem lw_p43 : lw_okq (⟨"ConstraintTextModel", "clockOf", "(J)I"⟩, 33) := ⟨⟨by decide +kernel, by decide +kernel⟩, List.mem_of_getElem? (i := 772) (by decide +kernel), List.mem_of_getElem? (i := 940) (by decide +kernel), List.mem_of_getElem? (i := 941) (by decide +kernel)⟩
theorem lw_p44 : lw_okq (⟨"ConstraintTextModel", "takeWhole", "(II)I"⟩, 33) := ⟨⟨by decide +kernel, by decide +kernel⟩, List.mem_of_getElem? (i := 772) (by decide +kernel), List.mem_of_getElem? (i := 945) (by decide +kernel), List.mem_of_getElem? (i := 946) (by decide +kernel)⟩
theorem lw_p45 : lw_okq (⟨"ConstraintTextModel", "whole", "()I"⟩, 33) := ⟨⟨by decide +kernel, by decide +kernel⟩, List.mem_of_getElem? (i := 772) (by decide +kernel), List.mem_of_getElem? (i := 949) (by decide +kernel), List.mem_of_getElem? (i := 950) (by decide +kernel)⟩
theorem lw_p46 : lw_okq (⟨"ConstraintTextModel", "takePattern", "(IIZ)V"⟩, 33) := ⟨⟨by decide +kernel, by decide +kernel⟩, List.mem_of_getElem? (i := 772) (by decide +kernel), List.mem_of_getElem? (i := 953) (by decide +kernel), List.mem_of_getElem? (i := 954) (by decide +kernel)⟩
theorem lw_p47 : lw_okq (⟨"ConstraintTextModel", "isPattern", "()Z"⟩, 33) := ⟨⟨by decide +kernel, by decide +kernel⟩, List.mem_of_getElem? (i := 772) (by decide +kernel), List.mem_of_getElem? (i := 957) (by decide +kernel), List.mem_of_getElem? (i := 958) (by decide +kernel)⟩
def lw_privs_3 : List (MethodName × Nat) := [(⟨"ConstraintText$Sheet", "matches", "(III)Z"⟩, 10), (⟨"ConstraintText$Sheet", "weightOf", "(I)I"⟩, 10), (⟨"ConstraintText$Sheet", "isIdle", "(I)Z"⟩, 10), (⟨"ConstraintText$Sheet", "haveClash", "(II)Z"⟩, 10), (⟨"ConstraintTextModel", "next", "()V"⟩, 33), (⟨"ConstraintTextModel", "readRow", "()V"⟩, 33), (⟨"ConstraintTextModel", "wordName", "()J"⟩, 33), (⟨"ConstraintTextModel", "sortOf", "(J)I"⟩, 33), (⟨"ConstraintTextModel", "take", "(Z)V"⟩, 33), (⟨"ConstraintTextModel", "readClock", "(I)V"⟩, 33), (⟨"ConstraintTextModel", "takeNew", "(I)V"⟩, 33), (⟨"ConstraintTextModel", "clockOf", "(J)I"⟩, 33), (⟨"ConstraintTextModel", "takeWhole", "(II)I"⟩, 33), (⟨"ConstraintTextModel", "whole", "()I"⟩, 33), (⟨"ConstraintTextModel", "takePattern", "(IIZ)V"⟩, 33), (⟨"ConstraintTextModel", "isPattern", "()Z"⟩, 33)]
theorem lw_r3 : ∀ q ∈ lw_privs_3, lw_okq q := List.forall_mem_cons.mpr ⟨lw_p32, List.forall_mem_cons.mpr ⟨lw_p33, List.forall_mem_cons.mpr ⟨lw_p34, List.forall_mem_cons.mpr ⟨lw_p35, List.forall_mem_cons.mpr ⟨lw_p36, List.forall_mem_cons.mpr ⟨lw_p37, List.forall_mem_cons.mpr ⟨lw_p38, List.forall_mem_cons.mpr ⟨lw_p39, List.forall_mem_cons.mpr ⟨lw_p40, List.forall_mem_cons.mpr ⟨lw_p41, List.forall_mem_cons.mpr ⟨lw_p42, List.forall_mem_cons.mpr ⟨lw_p43, List.forall_mem_cons.mpr ⟨lw_p44, List.forall_mem_cons.mpr ⟨lw_p45, List.forall_mem_cons.mpr ⟨lw_p46, List.forall_mem_cons.mpr ⟨lw_p47, fun _ h => absurd h List.not_mem_nil⟩⟩⟩⟩⟩⟩⟩⟩⟩⟩⟩⟩⟩⟩⟩⟩
theorem lw_p48 : lw_okq (⟨"ConstraintTextModel", "readDerived", "(I)V"⟩, 33) := ⟨⟨by decide +kernel, by decide +kernel⟩, List.mem_of_getElem? (i := 772) (by decide +kernel), List.mem_of_getElem? (i := 961) (by decide +kernel), List.mem_of_getElem? (i := 962) (by decide +kernel)⟩
theorem lw_p49 : lw_okq (⟨"ConstraintTextModel", "takeOld", "(IZ)V"⟩, 33) := ⟨⟨by decide +kernel, by decide +kernel⟩, List.mem_of_getElem? (i := 772) (by decide +kernel), List.mem_of_getElem? (i := 965) (by decide +kernel), List.mem_of_getElem? (i := 966) (by decide +kernel)⟩
theorem lw_p50 : lw_okq (⟨"ConstraintTextModel", "readException", "(I)V"⟩, 33) := ⟨⟨by decide +kernel, by decide +kernel⟩, List.mem_of_getElem? (i := 772) (by decide +kernel), List.mem_of_getElem? (i := 969) (by decide +kernel), List.mem_of_getElem? (i := 970) (by decide +kernel)⟩
theorem lw_p51 : lw_okq (⟨"ConstraintTextModel", "takeEnd", "()V"⟩, 33) := ⟨⟨by decide +kernel, by decide +kernel⟩, List.mem_of_getElem? (i := 772) (by decide +kernel), List.mem_of_getElem? (i := 973) (by decide +kernel), List.mem_of_getElem? (i := 974) (by decide +kernel)⟩
theorem lw_p52 : lw_okq (⟨"ConstraintTextModel", "unknown", "()I"⟩, 33) := ⟨⟨by decide +kernel, by decide +kernel⟩, List.mem_of_getElem? (i := 772) (by decide +kernel), List.mem_of_getElem? (i := 977) (by decide +kernel), List.mem_of_getElem? (i := 978) (by decide +kernel)⟩
theorem lw_p53 : lw_okq (⟨"ConstraintTextModel", "findFrom", "()V"⟩, 33) := ⟨⟨by decide +kernel, by decide +kernel⟩, List.mem_of_getElem? (i := 772) (by decide +kernel), List.mem_of_getElem? (i := 981) (by decide +kernel), List.mem_of_getElem? (i := 982) (by decide +kernel)⟩
theorem lw_p54 : lw_okq (⟨"ConstraintTextModel", "ring", "()I"⟩, 33) := ⟨⟨by decide +kernel, by decide +kernel⟩, List.mem_of_getElem? (i := 772) (by decide +kernel), List.mem_of_getElem? (i := 985) (by decide +kernel), List.mem_of_getElem? (i := 986) (by decide +kernel)⟩
theorem lw_p55 : lw_okq (⟨"ConstraintTextModel", "greatOne", "()I"⟩, 33) := ⟨⟨by decide +kernel, by decide +kernel⟩, List.mem_of_getElem? (i := 772) (by decide +kernel), List.mem_of_getElem? (i := 989) (by decide +kernel), List.mem_of_getElem? (i := 990) (by decide +kernel)⟩
theorem lw_p56 : lw_okq (⟨"ConstraintTextModel", "depth", "(I)I"⟩, 33) := ⟨⟨by decide +kernel, by decide +kernel⟩, List.mem_of_getElem? (i := 772) (by decide +kernel), List.mem_of_getElem? (i := 993) (by decide +kernel), List.mem_of_getElem? (i := 994) (by decide +kernel)⟩
theorem lw_p57 : lw_okq (⟨"ConstraintTextModel", "reckon", "(I)V"⟩, 33) := ⟨⟨by decide +kernel, by decide +kernel⟩, List.mem_of_getElem? (i := 772) (by decide +kernel), List.mem_of_getElem? (i := 997) (by decide +kernel), List.mem_of_getElem? (i := 998) (by decide +kernel)⟩
theorem lw_p58 : lw_okq (⟨"ConstraintTextModel", "adopt", "()V"⟩, 33) := ⟨⟨by decide +kernel, by decide +kernel⟩, List.mem_of_getElem? (i := 772) (by decide +kernel), List.mem_of_getElem? (i := 1006) (by decide +kernel), List.mem_of_getElem? (i := 1007) (by decide +kernel)⟩
theorem lw_p59 : lw_okq (⟨"ConstraintTextModel", "isClock", "(I)Z"⟩, 33) := ⟨⟨by decide +kernel, by decide +kernel⟩, List.mem_of_getElem? (i := 772) (by decide +kernel), List.mem_of_getElem? (i := 1014) (by decide +kernel), List.mem_of_getElem? (i := 1015) (by decide +kernel)⟩
theorem lw_p60 : lw_okq (⟨"ConstraintTextModel", "matched", "(II)I"⟩, 33) := ⟨⟨by decide +kernel, by decide +kernel⟩, List.mem_of_getElem? (i := 772) (by decide +kernel), List.mem_of_getElem? (i := 1018) (by decide +kernel), List.mem_of_getElem? (i := 1019) (by decide +kernel)⟩
theorem lw_p61 : lw_okq (⟨"ConstraintTextModel", "matches", "(III)Z"⟩, 33) := ⟨⟨by decide +kernel, by decide +kernel⟩, List.mem_of_getElem? (i := 772) (by decide +kernel), List.mem_of_getElem? (i := 1022) (by decide +kernel), List.mem_of_getElem? (i := 1023) (by decide +kernel)⟩
theorem lw_p62 : lw_okq (⟨"ConstraintTextModel", "areApart", "(II)Z"⟩, 33) := ⟨⟨by decide +kernel, by decide +kernel⟩, List.mem_of_getElem? (i := 772) (by decide +kernel), List.mem_of_getElem? (i := 1037) (by decide +kernel), List.mem_of_getElem? (i := 1038) (by decide +kernel)⟩
theorem lw_p63 : lw_okq (⟨"ConstraintTextModel", "fits", "(III)Z"⟩, 33) := ⟨⟨by decide +kernel, by decide +kernel⟩, List.mem_of_getElem? (i := 772) (by decide +kernel), List.mem_of_getElem? (i := 1048) (by decide +kernel), List.mem_of_getElem? (i := 1049) (by decide +kernel)⟩
def lw_privs_4 : List (MethodName × Nat) := [(⟨"ConstraintTextModel", "readDerived", "(I)V"⟩, 33), (⟨"ConstraintTextModel", "takeOld", "(IZ)V"⟩, 33), (⟨"ConstraintTextModel", "readException", "(I)V"⟩, 33), (⟨"ConstraintTextModel", "takeEnd", "()V"⟩, 33), (⟨"ConstraintTextModel", "unknown", "()I"⟩, 33), (⟨"ConstraintTextModel", "findFrom", "()V"⟩, 33), (⟨"ConstraintTextModel", "ring", "()I"⟩, 33), (⟨"ConstraintTextModel", "greatOne", "()I"⟩, 33), (⟨"ConstraintTextModel", "depth", "(I)I"⟩, 33), (⟨"ConstraintTextModel", "reckon", "(I)V"⟩, 33), (⟨"ConstraintTextModel", "adopt", "()V"⟩, 33), (⟨"ConstraintTextModel", "isClock", "(I)Z"⟩, 33), (⟨"ConstraintTextModel", "matched", "(II)I"⟩, 33), (⟨"ConstraintTextModel", "matches", "(III)Z"⟩, 33), (⟨"ConstraintTextModel", "areApart", "(II)Z"⟩, 33), (⟨"ConstraintTextModel", "fits", "(III)Z"⟩, 33)]
theorem lw_r4 : ∀ q ∈ lw_privs_4, lw_okq q := List.forall_mem_cons.mpr ⟨lw_p48, List.forall_mem_cons.mpr ⟨lw_p49, List.forall_mem_cons.mpr ⟨lw_p50, List.forall_mem_cons.mpr ⟨lw_p51, List.forall_mem_cons.mpr ⟨lw_p52, List.forall_mem_cons.mpr ⟨lw_p53, List.forall_mem_cons.mpr ⟨lw_p54, List.forall_mem_cons.mpr ⟨lw_p55, List.forall_mem_cons.mpr ⟨lw_p56, List.forall_mem_cons.mpr ⟨lw_p57, List.forall_mem_cons.mpr ⟨lw_p58, List.forall_mem_cons.mpr ⟨lw_p59, List.forall_mem_cons.mpr ⟨lw_p60, List.forall_mem_cons.mpr ⟨lw_p61, List.forall_mem_cons.mpr ⟨lw_p62, List.forall_mem_cons.mpr ⟨lw_p63, fun _ h => absurd h List.not_mem_nil⟩⟩⟩⟩⟩⟩⟩⟩⟩⟩⟩⟩⟩⟩⟩⟩
theorem lw_p64 : lw_okq (⟨"ConstraintTextModel", "strength", "(I)I"⟩, 33) := ⟨⟨by decide +kernel, by decide +kernel⟩, List.mem_of_getElem? (i := 772) (by decide +kernel), List.mem_of_getElem? (i := 1052) (by decide +kernel), List.mem_of_getElem? (i := 1053) (by decide +kernel)⟩
theorem lw_p65 : lw_okq (⟨"ConstraintTextModel", "isUnmatched", "(I)Z"⟩, 33) := ⟨⟨by decide +kernel, by decide +kernel⟩, List.mem_of_getElem? (i := 772) (by decide +kernel), List.mem_of_getElem? (i := 1068) (by decide +kernel), List.mem_of_getElem? (i := 1069) (by decide +kernel)⟩
theorem lw_p66 : lw_okq (⟨"ConstraintTextModel", "areClashing", "(II)Z"⟩, 33) := ⟨⟨by decide +kernel, by decide +kernel⟩, List.mem_of_getElem? (i := 772) (by decide +kernel), List.mem_of_getElem? (i := 1076) (by decide +kernel), List.mem_of_getElem? (i := 1077) (by decide +kernel)⟩
theorem lw_p67 : lw_okq (⟨"ConstraintTextModel", "printAll", "(I)V"⟩, 33) := ⟨⟨by decide +kernel, by decide +kernel⟩, List.mem_of_getElem? (i := 772) (by decide +kernel), List.mem_of_getElem? (i := 1084) (by decide +kernel), List.mem_of_getElem? (i := 1085) (by decide +kernel)⟩
theorem lw_p68 : lw_okq (⟨"ConstraintTextModel", "print", "(I)V"⟩, 33) := ⟨⟨by decide +kernel, by decide +kernel⟩, List.mem_of_getElem? (i := 772) (by decide +kernel), List.mem_of_getElem? (i := 1088) (by decide +kernel), List.mem_of_getElem? (i := 1089) (by decide +kernel)⟩
theorem lw_p69 : lw_okq (⟨"ConstraintTextModel", "putWord", "(J)V"⟩, 33) := ⟨⟨by decide +kernel, by decide +kernel⟩, List.mem_of_getElem? (i := 772) (by decide +kernel), List.mem_of_getElem? (i := 1092) (by decide +kernel), List.mem_of_getElem? (i := 1093) (by decide +kernel)⟩
theorem lw_p70 : lw_okq (⟨"ConstraintTextModel", "put", "(I)V"⟩, 33) := ⟨⟨by decide +kernel, by decide +kernel⟩, List.mem_of_getElem? (i := 772) (by decide +kernel), List.mem_of_getElem? (i := 1097) (by decide +kernel), List.mem_of_getElem? (i := 1098) (by decide +kernel)⟩
theorem lw_p71 : lw_okq (⟨"ConstraintTextModel", "putWhole", "(I)V"⟩, 33) := ⟨⟨by decide +kernel, by decide +kernel⟩, List.mem_of_getElem? (i := 772) (by decide +kernel), List.mem_of_getElem? (i := 1101) (by decide +kernel), List.mem_of_getElem? (i := 1102) (by decide +kernel)⟩
theorem lw_p72 : lw_okq (⟨"ConstraintTextModel", "putPattern", "(II)V"⟩, 33) := ⟨⟨by decide +kernel, by decide +kernel⟩, List.mem_of_getElem? (i := 772) (by decide +kernel), List.mem_of_getElem? (i := 1105) (by decide +kernel), List.mem_of_getElem? (i := 1106) (by decide +kernel)⟩
def lw_privs_5 : List (MethodName × Nat) := [(⟨"ConstraintTextModel", "strength", "(I)I"⟩, 33), (⟨"ConstraintTextModel", "isUnmatched", "(I)Z"⟩, 33), (⟨"ConstraintTextModel", "areClashing", "(II)Z"⟩, 33), (⟨"ConstraintTextModel", "printAll", "(I)V"⟩, 33), (⟨"ConstraintTextModel", "print", "(I)V"⟩, 33), (⟨"ConstraintTextModel", "putWord", "(J)V"⟩, 33), (⟨"ConstraintTextModel", "put", "(I)V"⟩, 33), (⟨"ConstraintTextModel", "putWhole", "(I)V"⟩, 33), (⟨"ConstraintTextModel", "putPattern", "(II)V"⟩, 33)]
theorem lw_r5 : ∀ q ∈ lw_privs_5, lw_okq q := List.forall_mem_cons.mpr ⟨lw_p64, List.forall_mem_cons.mpr ⟨lw_p65, List.forall_mem_cons.mpr ⟨lw_p66, List.forall_mem_cons.mpr ⟨lw_p67, List.forall_mem_cons.mpr ⟨lw_p68, List.forall_mem_cons.mpr ⟨lw_p69, List.forall_mem_cons.mpr ⟨lw_p70, List.forall_mem_cons.mpr ⟨lw_p71, List.forall_mem_cons.mpr ⟨lw_p72, fun _ h => absurd h List.not_mem_nil⟩⟩⟩⟩⟩⟩⟩⟩⟩
def lw_privs : List (MethodName × Nat) := lw_privs_1 ++ (lw_privs_2 ++ (lw_privs_3 ++ (lw_privs_4 ++ (lw_privs_5))))
def lw_tbl : List Cond := k2_sels lw_privs ++ tables_1
theorem lw_privs_ok : ∀ q ∈ lw_privs, lw_okq q := by
  show ∀ q ∈ lw_privs_1 ++ (lw_privs_2 ++ (lw_privs_3 ++ (lw_privs_4 ++ (lw_privs_5)))), lw_okq q
  exact List.forall_mem_append.mpr ⟨lw_r1, List.forall_mem_append.mpr ⟨lw_r2, List.forall_mem_append.mpr ⟨lw_r3, List.forall_mem_append.mpr ⟨lw_r4, lw_r5⟩⟩⟩⟩
/-- the words that outlast a step of the machine -/
def gtb : List Cond := lw_tbl.filter goodWord
theorem tw_of {w : Cond} (i : Nat) (h : lw_tbl[i]? = some w) (hg : goodWord w = true) : w ∈ gtb := List.mem_filter.mpr ⟨List.mem_of_getElem? h, hg⟩
theorem tc_s {w : Cond} (i : Nat) (h : (k2_sels lw_privs)[i]? = some w) (hg : goodWord w = true) : w ∈ gtb := List.mem_filter.mpr ⟨List.mem_append_left _ (List.mem_of_getElem? h), hg⟩
theorem tc_1_c {w : Cond} (i : Nat) (h : tables_1_1[i]? = some w) : w ∈ tables_1 := (List.mem_append_left _ (List.mem_of_getElem? h))
theorem tc_1 {w : Cond} (i : Nat) (h : tables_1_1[i]? = some w) (hg : goodWord w = true) : w ∈ gtb := List.mem_filter.mpr ⟨List.mem_append_right _ (tc_1_c i h), hg⟩
theorem tc_2_c {w : Cond} (i : Nat) (h : tables_1_2[i]? = some w) : w ∈ tables_1 := (List.mem_append_right _ (List.mem_append_left _ (List.mem_of_getElem? h)))
theorem tc_2 {w : Cond} (i : Nat) (h : tables_1_2[i]? = some w) (hg : goodWord w = true) : w ∈ gtb := List.mem_filter.mpr ⟨List.mem_append_right _ (tc_2_c i h), hg⟩
theorem tc_3_c {w : Cond} (i : Nat) (h : tables_1_3[i]? = some w) : w ∈ tables_1 := (List.mem_append_right _ (List.mem_append_right _ (List.mem_append_left _ (List.mem_of_getElem? h))))
theorem tc_3 {w : Cond} (i : Nat) (h : tables_1_3[i]? = some w) (hg : goodWord w = true) : w ∈ gtb := List.mem_filter.mpr ⟨List.mem_append_right _ (tc_3_c i h), hg⟩
theorem tc_4_c {w : Cond} (i : Nat) (h : tables_1_4[i]? = some w) : w ∈ tables_1 := (List.mem_append_right _ (List.mem_append_right _ (List.mem_append_right _ (List.mem_append_left _ (List.mem_of_getElem? h)))))
theorem tc_4 {w : Cond} (i : Nat) (h : tables_1_4[i]? = some w) (hg : goodWord w = true) : w ∈ gtb := List.mem_filter.mpr ⟨List.mem_append_right _ (tc_4_c i h), hg⟩
theorem tc_5_c {w : Cond} (i : Nat) (h : tables_1_5[i]? = some w) : w ∈ tables_1 := (List.mem_append_right _ (List.mem_append_right _ (List.mem_append_right _ (List.mem_append_right _ (List.mem_of_getElem? h)))))
theorem tc_5 {w : Cond} (i : Nat) (h : tables_1_5[i]? = some w) (hg : goodWord w = true) : w ∈ gtb := List.mem_filter.mpr ⟨List.mem_append_right _ (tc_5_c i h), hg⟩
theorem gtb_good {w : Cond} (h : w ∈ gtb) : goodWord w = true := (List.mem_filter.mp h).2
theorem gtb_in {w : Cond} (h : w ∈ gtb) : w ∈ lw_tbl := (List.mem_filter.mp h).1
def RX0 : String := "ConstraintText$ClockTable"
def TX0 : u_T := fun k => match k with
  | 0 => ("ConstraintText$ClockTable", "rows", "[I", true)
  | 1 => ("ConstraintText$ClockTable", "sources", "[I", true)
  | 2 => ("ConstraintText$ClockTable", "turned", "[Z", true)
  | 3 => ("ConstraintText$ClockTable", "timesBy", "[I", true)
  | 4 => ("ConstraintText$ClockTable", "dividedBy", "[I", true)
  | 5 => ("ConstraintText$ClockTable", "periods", "[J", true)
  | 6 => ("ConstraintText$ClockTable", "rises", "[J", true)
  | 7 => ("ConstraintText$ClockTable", "falls", "[J", true)
  | 8 => ("ConstraintText$ClockTable", "lowers", "[J", true)
  | 9 => ("ConstraintText$ClockTable", "settled", "[Z", true)
  | 10 => ("ConstraintText$ClockTable", "great", "[Z", true)
  | _ => ("ConstraintText$ClockTable", "size", "I", false)
def tyX0 : Nat → FieldType := fun k => match k with
  | 0 => .array .int
  | 1 => .array .int
  | 2 => .array .boolean
  | 3 => .array .int
  | 4 => .array .int
  | 5 => .array .long
  | 6 => .array .long
  | 7 => .array .long
  | 8 => .array .long
  | 9 => .array .boolean
  | 10 => .array .boolean
  | _ => .int
theorem nmX0 : ∀ a, a < 12 → ∀ b, b < 12 → a ≠ b → (TX0 a).2.1 ≠ (TX0 b).2.1 := by decide +kernel
theorem tyX0_ok : ∀ k, k < 12 → parseFieldDescriptor (TX0 k).2.2.1 = some (tyX0 k) := by decide +kernel
abbrev cX0_init : ByteArray := prog_2_method_1_code
def yX0_init : MethodName := ⟨RX0, "<init>", "()V"⟩
abbrev cX0_has : ByteArray := prog_2_method_2_code
def yX0_has : MethodName := ⟨RX0, "has", "(I)Z"⟩
abbrev cX0_wipe : ByteArray := prog_2_method_3_code
def yX0_wipe : MethodName := ⟨RX0, "wipe", "()V"⟩
abbrev cX0_open : ByteArray := prog_2_method_4_code
def yX0_open : MethodName := ⟨RX0, "open", "(I)V"⟩
abbrev cX0_setTimes : ByteArray := prog_2_method_5_code
def yX0_setTimes : MethodName := ⟨RX0, "setTimes", "(III)V"⟩
abbrev cX0_setRatio : ByteArray := prog_2_method_6_code
def yX0_setRatio : MethodName := ⟨RX0, "setRatio", "(IIZ)V"⟩
abbrev cX0_inRing : ByteArray := prog_2_method_7_code
def yX0_inRing : MethodName := ⟨RX0, "inRing", "(I)Z"⟩
abbrev cX0_settleAll : ByteArray := prog_2_method_8_code
def yX0_settleAll : MethodName := ⟨RX0, "settleAll", "()V"⟩
abbrev cX0_settle : ByteArray := prog_2_method_9_code
def yX0_settle : MethodName := ⟨RX0, "settle", "(II)V"⟩
abbrev cX0_fact : ByteArray := prog_2_method_10_code
def yX0_fact : MethodName := ⟨RX0, "fact", "(II)I"⟩
abbrev cX0_edgePart : ByteArray := prog_2_method_11_code
def yX0_edgePart : MethodName := ⟨RX0, "edgePart", "(III)J"⟩
abbrev cX0_distancePart : ByteArray := prog_2_method_12_code
def yX0_distancePart : MethodName := ⟨RX0, "distancePart", "(III)J"⟩
def RX1 : String := "ConstraintText$Pins"
def TX1 : u_T := fun k => match k with
  | 0 => ("ConstraintText$Pins", "units", "[C", true)
  | _ => ("ConstraintText$Pins", "lengths", "[I", true)
def tyX1 : Nat → FieldType := fun k => match k with
  | 0 => .array .char
  | _ => .array .int
theorem nmX1 : ∀ a, a < 2 → ∀ b, b < 2 → a ≠ b → (TX1 a).2.1 ≠ (TX1 b).2.1 := by decide +kernel
theorem tyX1_ok : ∀ k, k < 2 → parseFieldDescriptor (TX1 k).2.2.1 = some (tyX1 k) := by decide +kernel
abbrev cX1_init : ByteArray := prog_3_method_1_code
def yX1_init : MethodName := ⟨RX1, "<init>", "()V"⟩
abbrev cX1_has : ByteArray := prog_3_method_2_code
def yX1_has : MethodName := ⟨RX1, "has", "(I)Z"⟩
abbrev cX1_grow : ByteArray := prog_3_method_3_code
def yX1_grow : MethodName := ⟨RX1, "grow", "(II)Z"⟩
abbrev cX1_lengthOf : ByteArray := prog_3_method_4_code
def yX1_lengthOf : MethodName := ⟨RX1, "lengthOf", "(I)I"⟩
abbrev cX1_at : ByteArray := prog_3_method_5_code
def yX1_at : MethodName := ⟨RX1, "at", "(II)C"⟩
def RX2 : String := "ConstraintText$Reader"
def TX2 : u_T := fun k => match k with
  | 0 => ("ConstraintText$Reader", "tape", "LConstraintText$Tape;", true)
  | 1 => ("ConstraintText$Reader", "nameStarts", "[I", true)
  | 2 => ("ConstraintText$Reader", "nameLengths", "[I", true)
  | 3 => ("ConstraintText$Reader", "linkStarts", "[I", true)
  | 4 => ("ConstraintText$Reader", "linkLengths", "[I", true)
  | 5 => ("ConstraintText$Reader", "sheet", "LConstraintText$Sheet;", false)
  | 6 => ("ConstraintText$Reader", "start", "I", false)
  | _ => ("ConstraintText$Reader", "end", "I", false)
def tyX2 : Nat → FieldType := fun k => match k with
  | 0 => .object "ConstraintText$Tape"
  | 1 => .array .int
  | 2 => .array .int
  | 3 => .array .int
  | 4 => .array .int
  | 5 => .object "ConstraintText$Sheet"
  | 6 => .int
  | _ => .int
theorem nmX2 : ∀ a, a < 8 → ∀ b, b < 8 → a ≠ b → (TX2 a).2.1 ≠ (TX2 b).2.1 := by decide +kernel
theorem tyX2_ok : ∀ k, k < 8 → parseFieldDescriptor (TX2 k).2.2.1 = some (tyX2 k) := by decide +kernel
abbrev cX2_init : ByteArray := prog_4_method_1_code
def yX2_init : MethodName := ⟨RX2, "<init>", "()V"⟩
abbrev cX2_exchange : ByteArray := prog_4_method_2_code
def yX2_exchange : MethodName := ⟨RX2, "exchange", "(LConstraintText$Sheet;)LConstraintText$Sheet;"⟩
abbrev cX2_faultOfTape : ByteArray := prog_4_method_3_code
def yX2_faultOfTape : MethodName := ⟨RX2, "faultOfTape", "()I"⟩
abbrev cX2_takeRow : ByteArray := prog_4_method_4_code
def yX2_takeRow : MethodName := ⟨RX2, "takeRow", "()Z"⟩
abbrev cX2_takeWord : ByteArray := prog_4_method_5_code
def yX2_takeWord : MethodName := ⟨RX2, "takeWord", "()V"⟩
abbrev cX2_takeNewClock : ByteArray := prog_4_method_6_code
def yX2_takeNewClock : MethodName := ⟨RX2, "takeNewClock", "()Z"⟩
abbrev cX2_takeTimes : ByteArray := prog_4_method_7_code
def yX2_takeTimes : MethodName := ⟨RX2, "takeTimes", "()Z"⟩
abbrev cX2_takeLink : ByteArray := prog_4_method_8_code
def yX2_takeLink : MethodName := ⟨RX2, "takeLink", "(I)Z"⟩
abbrev cX2_takeRatio : ByteArray := prog_4_method_9_code
def yX2_takeRatio : MethodName := ⟨RX2, "takeRatio", "(Z)Z"⟩
abbrev cX2_takeValue : ByteArray := prog_4_method_10_code
def yX2_takeValue : MethodName := ⟨RX2, "takeValue", "(II)Z"⟩
abbrev cX2_takeWhole : ByteArray := prog_4_method_11_code
def yX2_takeWhole : MethodName := ⟨RX2, "takeWhole", "(II)I"⟩
abbrev cX2_takePath : ByteArray := prog_4_method_12_code
def yX2_takePath : MethodName := ⟨RX2, "takePath", "()Z"⟩
abbrev cX2_takePattern : ByteArray := prog_4_method_13_code
def yX2_takePattern : MethodName := ⟨RX2, "takePattern", "(I)Z"⟩
abbrev cX2_keepPattern : ByteArray := prog_4_method_14_code
def yX2_keepPattern : MethodName := ⟨RX2, "keepPattern", "(I)Z"⟩
abbrev cX2_takeEnd : ByteArray := prog_4_method_15_code
def yX2_takeEnd : MethodName := ⟨RX2, "takeEnd", "()Z"⟩
abbrev cX2_printWord : ByteArray := prog_4_method_16_code
def yX2_printWord : MethodName := ⟨RX2, "printWord", "()V"⟩
abbrev cX2_sortInHand : ByteArray := prog_4_method_17_code
def yX2_sortInHand : MethodName := ⟨RX2, "sortInHand", "()I"⟩
abbrev cX2_isInHand : ByteArray := prog_4_method_18_code
def yX2_isInHand : MethodName := ⟨RX2, "isInHand", "(Ljava/lang/String;)Z"⟩
abbrev cX2_isAnyInHand : ByteArray := prog_4_method_19_code
def yX2_isAnyInHand : MethodName := ⟨RX2, "isAnyInHand", "()Z"⟩
abbrev cX2_isNameInHand : ByteArray := prog_4_method_20_code
def yX2_isNameInHand : MethodName := ⟨RX2, "isNameInHand", "()Z"⟩
abbrev cX2_isPatternInHand : ByteArray := prog_4_method_21_code
def yX2_isPatternInHand : MethodName := ⟨RX2, "isPatternInHand", "()Z"⟩
abbrev cX2_wholeInHand : ByteArray := prog_4_method_22_code
def yX2_wholeInHand : MethodName := ⟨RX2, "wholeInHand", "()I"⟩
abbrev cX2_clockNamed : ByteArray := prog_4_method_23_code
def yX2_clockNamed : MethodName := ⟨RX2, "clockNamed", "(II)I"⟩
abbrev cX2_isSameText : ByteArray := prog_4_method_24_code
def yX2_isSameText : MethodName := ⟨RX2, "isSameText", "(III)Z"⟩
abbrev cX2_bindLinks : ByteArray := prog_4_method_25_code
def yX2_bindLinks : MethodName := ⟨RX2, "bindLinks", "()Z"⟩
abbrev cX2_hasNoRing : ByteArray := prog_4_method_26_code
def yX2_hasNoRing : MethodName := ⟨RX2, "hasNoRing", "()Z"⟩
abbrev cX2_hasNoneGreat : ByteArray := prog_4_method_27_code
def yX2_hasNoneGreat : MethodName := ⟨RX2, "hasNoneGreat", "()Z"⟩
def RX3 : String := "ConstraintText$Sheet"
def TX3 : u_T := fun k => match k with
  | 0 => ("ConstraintText$Sheet", "sorts", "[I", true)
  | 1 => ("ConstraintText$Sheet", "values", "[I", true)
  | 2 => ("ConstraintText$Sheet", "links", "[I", true)
  | 3 => ("ConstraintText$Sheet", "patternStarts", "[I", true)
  | 4 => ("ConstraintText$Sheet", "patternLengths", "[I", true)
  | 5 => ("ConstraintText$Sheet", "hits", "[J", true)
  | 6 => ("ConstraintText$Sheet", "printed", "[C", true)
  | 7 => ("ConstraintText$Sheet", "clocks", "LConstraintText$ClockTable;", true)
  | 8 => ("ConstraintText$Sheet", "rowCount", "I", false)
  | _ => ("ConstraintText$Sheet", "printedLength", "I", false)
def tyX3 : Nat → FieldType := fun k => match k with
  | 0 => .array .int
  | 1 => .array .int
  | 2 => .array .int
  | 3 => .array .int
  | 4 => .array .int
  | 5 => .array .long
  | 6 => .array .char
  | 7 => .object "ConstraintText$ClockTable"
  | 8 => .int
  | _ => .int
theorem nmX3 : ∀ a, a < 10 → ∀ b, b < 10 → a ≠ b → (TX3 a).2.1 ≠ (TX3 b).2.1 := by decide +kernel
theorem tyX3_ok : ∀ k, k < 10 → parseFieldDescriptor (TX3 k).2.2.1 = some (tyX3 k) := by decide +kernel
abbrev cX3_init : ByteArray := prog_5_method_1_code
def yX3_init : MethodName := ⟨RX3, "<init>", "()V"⟩
abbrev cX3_wipe : ByteArray := prog_5_method_2_code
def yX3_wipe : MethodName := ⟨RX3, "wipe", "()V"⟩
abbrev cX3_open : ByteArray := prog_5_method_3_code
def yX3_open : MethodName := ⟨RX3, "open", "(I)V"⟩
abbrev cX3_setValue : ByteArray := prog_5_method_4_code
def yX3_setValue : MethodName := ⟨RX3, "setValue", "(I)V"⟩
abbrev cX3_setPattern : ByteArray := prog_5_method_5_code
def yX3_setPattern : MethodName := ⟨RX3, "setPattern", "(II)V"⟩
abbrev cX3_patternOf : ByteArray := prog_5_method_6_code
def yX3_patternOf : MethodName := ⟨RX3, "patternOf", "(II)I"⟩
abbrev cX3_newestHasPattern : ByteArray := prog_5_method_7_code
def yX3_newestHasPattern : MethodName := ⟨RX3, "newestHasPattern", "()Z"⟩
abbrev cX3_print : ByteArray := prog_5_method_8_code
def yX3_print : MethodName := ⟨RX3, "print", "(I)V"⟩
abbrev cX3_printGap : ByteArray := prog_5_method_9_code
def yX3_printGap : MethodName := ⟨RX3, "printGap", "()V"⟩
abbrev cX3_printWhole : ByteArray := prog_5_method_10_code
def yX3_printWhole : MethodName := ⟨RX3, "printWhole", "(I)V"⟩
abbrev cX3_printedAt : ByteArray := prog_5_method_11_code
def yX3_printedAt : MethodName := ⟨RX3, "printedAt", "(I)I"⟩
abbrev cX3_hitsOf : ByteArray := prog_5_method_12_code
def yX3_hitsOf : MethodName := ⟨RX3, "hitsOf", "(II)J"⟩
abbrev cX3_matchPin : ByteArray := prog_5_method_13_code
def yX3_matchPin : MethodName := ⟨RX3, "matchPin", "(LConstraintText$Pins;I)V"⟩
abbrev cX3_fits : ByteArray := prog_5_method_14_code
def yX3_fits : MethodName := ⟨RX3, "fits", "(ILConstraintText$Pins;I)Z"⟩
abbrev cX3_reachedByStars : ByteArray := prog_5_method_15_code
def yX3_reachedByStars : MethodName := ⟨RX3, "reachedByStars", "(I)I"⟩
abbrev cX3_reachedBy : ByteArray := prog_5_method_16_code
def yX3_reachedBy : MethodName := ⟨RX3, "reachedBy", "(III)I"⟩
abbrev cX3_linkOf : ByteArray := prog_5_method_17_code
def yX3_linkOf : MethodName := ⟨RX3, "linkOf", "(II)I"⟩
abbrev cX3_saysApart : ByteArray := prog_5_method_18_code
def yX3_saysApart : MethodName := ⟨RX3, "saysApart", "(II)Z"⟩
abbrev cX3_winner : ByteArray := prog_5_method_19_code
def yX3_winner : MethodName := ⟨RX3, "winner", "(III)I"⟩
abbrev cX3_strengthOf : ByteArray := prog_5_method_20_code
def yX3_strengthOf : MethodName := ⟨RX3, "strengthOf", "(I)I"⟩
abbrev cX3_weightOf : ByteArray := prog_5_method_21_code
def yX3_weightOf : MethodName := ⟨RX3, "weightOf", "(I)I"⟩
abbrev cX3_admits : ByteArray := prog_5_method_22_code
def yX3_admits : MethodName := ⟨RX3, "admits", "(III)Z"⟩
abbrev cX3_hasPattern : ByteArray := prog_5_method_23_code
def yX3_hasPattern : MethodName := ⟨RX3, "hasPattern", "(II)Z"⟩
abbrev cX3_matches : ByteArray := prog_5_method_24_code
def yX3_matches : MethodName := ⟨RX3, "matches", "(III)Z"⟩
abbrev cX3_latestValue : ByteArray := prog_5_method_25_code
def yX3_latestValue : MethodName := ⟨RX3, "latestValue", "(II)I"⟩
abbrev cX3_idleRow : ByteArray := prog_5_method_26_code
def yX3_idleRow : MethodName := ⟨RX3, "idleRow", "(I)I"⟩
abbrev cX3_isIdle : ByteArray := prog_5_method_27_code
def yX3_isIdle : MethodName := ⟨RX3, "isIdle", "(I)Z"⟩
abbrev cX3_clashingRow : ByteArray := prog_5_method_28_code
def yX3_clashingRow : MethodName := ⟨RX3, "clashingRow", "(II)I"⟩
abbrev cX3_haveClash : ByteArray := prog_5_method_29_code
def yX3_haveClash : MethodName := ⟨RX3, "haveClash", "(II)Z"⟩
def RX4 : String := "ConstraintText$Tape"
def TX4 : u_T := fun k => match k with
  | 0 => ("ConstraintText$Tape", "units", "[C", true)
  | _ => ("ConstraintText$Tape", "length", "I", false)
def tyX4 : Nat → FieldType := fun k => match k with
  | 0 => .array .char
  | _ => .int
theorem nmX4 : ∀ a, a < 2 → ∀ b, b < 2 → a ≠ b → (TX4 a).2.1 ≠ (TX4 b).2.1 := by decide +kernel
theorem tyX4_ok : ∀ k, k < 2 → parseFieldDescriptor (TX4 k).2.2.1 = some (tyX4 k) := by decide +kernel
abbrev cX4_init : ByteArray := prog_6_method_1_code
def yX4_init : MethodName := ⟨RX4, "<init>", "()V"⟩
abbrev cX4_takes : ByteArray := prog_6_method_2_code
def yX4_takes : MethodName := ⟨RX4, "takes", "(I)Z"⟩
abbrev cX4_room : ByteArray := prog_6_method_3_code
def yX4_room : MethodName := ⟨RX4, "room", "()I"⟩
abbrev cX4_append : ByteArray := prog_6_method_4_code
def yX4_append : MethodName := ⟨RX4, "append", "(I)V"⟩
abbrev cX4_wipe : ByteArray := prog_6_method_5_code
def yX4_wipe : MethodName := ⟨RX4, "wipe", "()V"⟩
abbrev cX4_at : ByteArray := prog_6_method_6_code
def yX4_at : MethodName := ⟨RX4, "at", "(I)C"⟩
def RX5 : String := "ConstraintText"
def TX5 : u_T := fun k => match k with
  | 0 => ("ConstraintText", "tape", "LConstraintText$Tape;", true)
  | 1 => ("ConstraintText", "pins", "LConstraintText$Pins;", true)
  | 2 => ("ConstraintText", "reader", "LConstraintText$Reader;", true)
  | _ => ("ConstraintText", "sheet", "LConstraintText$Sheet;", false)
def tyX5 : Nat → FieldType := fun k => match k with
  | 0 => .object "ConstraintText$Tape"
  | 1 => .object "ConstraintText$Pins"
  | 2 => .object "ConstraintText$Reader"
  | _ => .object "ConstraintText$Sheet"
theorem nmX5 : ∀ a, a < 4 → ∀ b, b < 4 → a ≠ b → (TX5 a).2.1 ≠ (TX5 b).2.1 := by decide +kernel
theorem tyX5_ok : ∀ k, k < 4 → parseFieldDescriptor (TX5 k).2.2.1 = some (tyX5 k) := by decide +kernel
abbrev cX5_init : ByteArray := prog_1_method_1_code
def yX5_init : MethodName := ⟨RX5, "<init>", "()V"⟩
abbrev cX5_unit : ByteArray := prog_1_method_2_code
def yX5_unit : MethodName := ⟨RX5, "unit", "(I)Z"⟩
abbrev cX5_units : ByteArray := prog_1_method_3_code
def yX5_units : MethodName := ⟨RX5, "units", "(I)Z"⟩
abbrev cX5_name : ByteArray := prog_1_method_4_code
def yX5_name : MethodName := ⟨RX5, "name", "(II)Z"⟩
abbrev cX5_read : ByteArray := prog_1_method_5_code
def yX5_read : MethodName := ⟨RX5, "read", "()I"⟩
abbrev cX5_clock : ByteArray := prog_1_method_6_code
def yX5_clock : MethodName := ⟨RX5, "clock", "(II)I"⟩
abbrev cX5_edge : ByteArray := prog_1_method_7_code
def yX5_edge : MethodName := ⟨RX5, "edge", "(III)J"⟩
abbrev cX5_distance : ByteArray := prog_1_method_8_code
def yX5_distance : MethodName := ⟨RX5, "distance", "(III)J"⟩
abbrev cX5_exception : ByteArray := prog_1_method_9_code
def yX5_exception : MethodName := ⟨RX5, "exception", "(III)I"⟩
abbrev cX5_row : ByteArray := prog_1_method_10_code
def yX5_row : MethodName := ⟨RX5, "row", "(II)I"⟩
abbrev cX5_load : ByteArray := prog_1_method_11_code
def yX5_load : MethodName := ⟨RX5, "load", "(II)I"⟩
abbrev cX5_unmatched : ByteArray := prog_1_method_12_code
def yX5_unmatched : MethodName := ⟨RX5, "unmatched", "(I)I"⟩
abbrev cX5_clash : ByteArray := prog_1_method_13_code
def yX5_clash : MethodName := ⟨RX5, "clash", "(II)I"⟩
abbrev cX5_write : ByteArray := prog_1_method_14_code
def yX5_write : MethodName := ⟨RX5, "write", "(I)I"⟩
abbrev cX5_count : ByteArray := prog_1_method_15_code
def yX5_count : MethodName := ⟨RX5, "count", "(I)I"⟩
abbrev cX5_isPinOrNone : ByteArray := prog_1_method_16_code
def yX5_isPinOrNone : MethodName := ⟨RX5, "isPinOrNone", "(I)Z"⟩
abbrev cX5_isSmallLetter : ByteArray := prog_1_method_17_code
def yX5_isSmallLetter : MethodName := ⟨RX5, "isSmallLetter", "(I)Z"⟩
abbrev cX5_isDigit : ByteArray := prog_1_method_18_code
def yX5_isDigit : MethodName := ⟨RX5, "isDigit", "(I)Z"⟩
abbrev cX5_isNameUnit : ByteArray := prog_1_method_19_code
def yX5_isNameUnit : MethodName := ⟨RX5, "isNameUnit", "(I)Z"⟩
abbrev cX5_isBlank : ByteArray := prog_1_method_20_code
def yX5_isBlank : MethodName := ⟨RX5, "isBlank", "(I)Z"⟩
abbrev cX5_makesClock : ByteArray := prog_1_method_21_code
def yX5_makesClock : MethodName := ⟨RX5, "makesClock", "(I)Z"⟩
abbrev cX5_keyword : ByteArray := prog_1_method_22_code
def yX5_keyword : MethodName := ⟨RX5, "keyword", "(I)Ljava/lang/String;"⟩
abbrev cX5_commonDivisor : ByteArray := prog_1_method_23_code
def yX5_commonDivisor : MethodName := ⟨RX5, "commonDivisor", "(JJ)J"⟩
abbrev cX5_lowestPart : ByteArray := prog_1_method_24_code
def yX5_lowestPart : MethodName := ⟨RX5, "lowestPart", "(JJI)J"⟩
def RX6 : String := "ConstraintTextModel"
def TX6 : u_T := fun k => match k with
  | 0 => ("ConstraintTextModel", "code", "I", false)
  | 1 => ("ConstraintTextModel", "letters", "[I", true)
  | 2 => ("ConstraintTextModel", "sizes", "[I", true)
  | 3 => ("ConstraintTextModel", "tape", "[I", true)
  | 4 => ("ConstraintTextModel", "length", "I", false)
  | 5 => ("ConstraintTextModel", "rows", "I", false)
  | 6 => ("ConstraintTextModel", "sort", "[I", true)
  | 7 => ("ConstraintTextModel", "nameC", "[J", true)
  | 8 => ("ConstraintTextModel", "nameD", "[J", true)
  | 9 => ("ConstraintTextModel", "one", "[I", true)
  | 10 => ("ConstraintTextModel", "two", "[I", true)
  | 11 => ("ConstraintTextModel", "three", "[I", true)
  | 12 => ("ConstraintTextModel", "pattern", "[I", true)
  | 13 => ("ConstraintTextModel", "patternSize", "[I", true)
  | 14 => ("ConstraintTextModel", "clocks", "I", false)
  | 15 => ("ConstraintTextModel", "clockRow", "[I", true)
  | 16 => ("ConstraintTextModel", "from", "[I", true)
  | 17 => ("ConstraintTextModel", "period", "[J", true)
  | 18 => ("ConstraintTextModel", "rise", "[J", true)
  | 19 => ("ConstraintTextModel", "fall", "[J", true)
  | 20 => ("ConstraintTextModel", "under", "[J", true)
  | 21 => ("ConstraintTextModel", "great", "[Z", true)
  | 22 => ("ConstraintTextModel", "begin", "I", false)
  | 23 => ("ConstraintTextModel", "end", "I", false)
  | 24 => ("ConstraintTextModel", "right", "Z", false)
  | 25 => ("ConstraintTextModel", "newRows", "I", false)
  | 26 => ("ConstraintTextModel", "newClocks", "I", false)
  | 27 => ("ConstraintTextModel", "placeC", "[I", true)
  | 28 => ("ConstraintTextModel", "placeD", "[I", true)
  | 29 => ("ConstraintTextModel", "reads", "[Z", true)
  | 30 => ("ConstraintTextModel", "wanted", "I", false)
  | 31 => ("ConstraintTextModel", "printed", "I", false)
  | _ => ("ConstraintTextModel", "told", "I", false)
def tyX6 : Nat → FieldType := fun k => match k with
  | 0 => .int
  | 1 => .array .int
  | 2 => .array .int
  | 3 => .array .int
  | 4 => .int
  | 5 => .int
  | 6 => .array .int
  | 7 => .array .long
  | 8 => .array .long
  | 9 => .array .int
  | 10 => .array .int
  | 11 => .array .int
  | 12 => .array .int
  | 13 => .array .int
  | 14 => .int
  | 15 => .array .int
  | 16 => .array .int
  | 17 => .array .long
  | 18 => .array .long
  | 19 => .array .long
  | 20 => .array .long
  | 21 => .array .boolean
  | 22 => .int
  | 23 => .int
  | 24 => .boolean
  | 25 => .int
  | 26 => .int
  | 27 => .array .int
  | 28 => .array .int
  | 29 => .array .boolean
  | 30 => .int
  | 31 => .int
  | _ => .int
theorem nmX6 : ∀ a, a < 33 → ∀ b, b < 33 → a ≠ b → (TX6 a).2.1 ≠ (TX6 b).2.1 := by decide +kernel
theorem tyX6_ok : ∀ k, k < 33 → parseFieldDescriptor (TX6 k).2.2.1 = some (tyX6 k) := by decide +kernel
abbrev cX6_init : ByteArray := prog_8_method_1_code
def yX6_init : MethodName := ⟨RX6, "<init>", "()V"⟩
abbrev cX6_thrown : ByteArray := prog_8_method_2_code
def yX6_thrown : MethodName := ⟨RX6, "thrown", "()I"⟩
abbrev cX6_isName : ByteArray := prog_8_method_3_code
def yX6_isName : MethodName := ⟨RX6, "isName", "(I)Z"⟩
abbrev cX6_name : ByteArray := prog_8_method_4_code
def yX6_name : MethodName := ⟨RX6, "name", "(II)Z"⟩
abbrev cX6_isCharacter : ByteArray := prog_8_method_5_code
def yX6_isCharacter : MethodName := ⟨RX6, "isCharacter", "(I)Z"⟩
abbrev cX6_unit : ByteArray := prog_8_method_6_code
def yX6_unit : MethodName := ⟨RX6, "unit", "(I)Z"⟩
abbrev cX6_units : ByteArray := prog_8_method_7_code
def yX6_units : MethodName := ⟨RX6, "units", "(I)Z"⟩
abbrev cX6_next : ByteArray := prog_8_method_8_code
def yX6_next : MethodName := ⟨RX6, "next", "()V"⟩
abbrev cX6_take : ByteArray := prog_8_method_9_code
def yX6_take : MethodName := ⟨RX6, "take", "(Z)V"⟩
abbrev cX6_takeEnd : ByteArray := prog_8_method_10_code
def yX6_takeEnd : MethodName := ⟨RX6, "takeEnd", "()V"⟩
abbrev cX6_wordName : ByteArray := prog_8_method_11_code
def yX6_wordName : MethodName := ⟨RX6, "wordName", "()J"⟩
abbrev cX6_whole : ByteArray := prog_8_method_12_code
def yX6_whole : MethodName := ⟨RX6, "whole", "()I"⟩
abbrev cX6_isPattern : ByteArray := prog_8_method_13_code
def yX6_isPattern : MethodName := ⟨RX6, "isPattern", "()Z"⟩
abbrev cX6_takeWhole : ByteArray := prog_8_method_14_code
def yX6_takeWhole : MethodName := ⟨RX6, "takeWhole", "(II)I"⟩
abbrev cX6_takePattern : ByteArray := prog_8_method_15_code
def yX6_takePattern : MethodName := ⟨RX6, "takePattern", "(IIZ)V"⟩
abbrev cX6_word : ByteArray := prog_8_method_16_code
def yX6_word : MethodName := ⟨RX6, "word", "(IIIIII)J"⟩
abbrev cX6_wordOf : ByteArray := prog_8_method_17_code
def yX6_wordOf : MethodName := ⟨RX6, "wordOf", "(I)J"⟩
abbrev cX6_sortOf : ByteArray := prog_8_method_18_code
def yX6_sortOf : MethodName := ⟨RX6, "sortOf", "(J)I"⟩
abbrev cX6_clockOf : ByteArray := prog_8_method_19_code
def yX6_clockOf : MethodName := ⟨RX6, "clockOf", "(J)I"⟩
abbrev cX6_takeNew : ByteArray := prog_8_method_20_code
def yX6_takeNew : MethodName := ⟨RX6, "takeNew", "(I)V"⟩
abbrev cX6_takeOld : ByteArray := prog_8_method_21_code
def yX6_takeOld : MethodName := ⟨RX6, "takeOld", "(IZ)V"⟩
abbrev cX6_readClock : ByteArray := prog_8_method_22_code
def yX6_readClock : MethodName := ⟨RX6, "readClock", "(I)V"⟩
abbrev cX6_readDerived : ByteArray := prog_8_method_23_code
def yX6_readDerived : MethodName := ⟨RX6, "readDerived", "(I)V"⟩
abbrev cX6_readException : ByteArray := prog_8_method_24_code
def yX6_readException : MethodName := ⟨RX6, "readException", "(I)V"⟩
abbrev cX6_readRow : ByteArray := prog_8_method_25_code
def yX6_readRow : MethodName := ⟨RX6, "readRow", "()V"⟩
abbrev cX6_unknown : ByteArray := prog_8_method_26_code
def yX6_unknown : MethodName := ⟨RX6, "unknown", "()I"⟩
abbrev cX6_findFrom : ByteArray := prog_8_method_27_code
def yX6_findFrom : MethodName := ⟨RX6, "findFrom", "()V"⟩
abbrev cX6_ring : ByteArray := prog_8_method_28_code
def yX6_ring : MethodName := ⟨RX6, "ring", "()I"⟩
abbrev cX6_common : ByteArray := prog_8_method_29_code
def yX6_common : MethodName := ⟨RX6, "common", "(JJ)J"⟩
abbrev cX6_reckon : ByteArray := prog_8_method_30_code
def yX6_reckon : MethodName := ⟨RX6, "reckon", "(I)V"⟩
abbrev cX6_depth : ByteArray := prog_8_method_31_code
def yX6_depth : MethodName := ⟨RX6, "depth", "(I)I"⟩
abbrev cX6_greatOne : ByteArray := prog_8_method_32_code
def yX6_greatOne : MethodName := ⟨RX6, "greatOne", "()I"⟩
abbrev cX6_read : ByteArray := prog_8_method_33_code
def yX6_read : MethodName := ⟨RX6, "read", "()I"⟩
abbrev cX6_adopt : ByteArray := prog_8_method_34_code
def yX6_adopt : MethodName := ⟨RX6, "adopt", "()V"⟩
abbrev cX6_matches : ByteArray := prog_8_method_35_code
def yX6_matches : MethodName := ⟨RX6, "matches", "(III)Z"⟩
abbrev cX6_matched : ByteArray := prog_8_method_36_code
def yX6_matched : MethodName := ⟨RX6, "matched", "(II)I"⟩
abbrev cX6_isClock : ByteArray := prog_8_method_37_code
def yX6_isClock : MethodName := ⟨RX6, "isClock", "(I)Z"⟩
abbrev cX6_clock : ByteArray := prog_8_method_38_code
def yX6_clock : MethodName := ⟨RX6, "clock", "(II)I"⟩
abbrev cX6_part : ByteArray := prog_8_method_39_code
def yX6_part : MethodName := ⟨RX6, "part", "(JJI)J"⟩
abbrev cX6_edge : ByteArray := prog_8_method_40_code
def yX6_edge : MethodName := ⟨RX6, "edge", "(III)J"⟩
abbrev cX6_areApart : ByteArray := prog_8_method_41_code
def yX6_areApart : MethodName := ⟨RX6, "areApart", "(II)Z"⟩
abbrev cX6_distance : ByteArray := prog_8_method_42_code
def yX6_distance : MethodName := ⟨RX6, "distance", "(III)J"⟩
abbrev cX6_fits : ByteArray := prog_8_method_43_code
def yX6_fits : MethodName := ⟨RX6, "fits", "(III)Z"⟩
abbrev cX6_strength : ByteArray := prog_8_method_44_code
def yX6_strength : MethodName := ⟨RX6, "strength", "(I)I"⟩
abbrev cX6_isPin : ByteArray := prog_8_method_45_code
def yX6_isPin : MethodName := ⟨RX6, "isPin", "(I)Z"⟩
abbrev cX6_exception : ByteArray := prog_8_method_46_code
def yX6_exception : MethodName := ⟨RX6, "exception", "(III)I"⟩
abbrev cX6_row : ByteArray := prog_8_method_47_code
def yX6_row : MethodName := ⟨RX6, "row", "(II)I"⟩
abbrev cX6_load : ByteArray := prog_8_method_48_code
def yX6_load : MethodName := ⟨RX6, "load", "(II)I"⟩
abbrev cX6_isUnmatched : ByteArray := prog_8_method_49_code
def yX6_isUnmatched : MethodName := ⟨RX6, "isUnmatched", "(I)Z"⟩
abbrev cX6_unmatched : ByteArray := prog_8_method_50_code
def yX6_unmatched : MethodName := ⟨RX6, "unmatched", "(I)I"⟩
abbrev cX6_areClashing : ByteArray := prog_8_method_51_code
def yX6_areClashing : MethodName := ⟨RX6, "areClashing", "(II)Z"⟩
abbrev cX6_clash : ByteArray := prog_8_method_52_code
def yX6_clash : MethodName := ⟨RX6, "clash", "(II)I"⟩
abbrev cX6_put : ByteArray := prog_8_method_53_code
def yX6_put : MethodName := ⟨RX6, "put", "(I)V"⟩
abbrev cX6_putWord : ByteArray := prog_8_method_54_code
def yX6_putWord : MethodName := ⟨RX6, "putWord", "(J)V"⟩
abbrev cX6_putWhole : ByteArray := prog_8_method_55_code
def yX6_putWhole : MethodName := ⟨RX6, "putWhole", "(I)V"⟩
abbrev cX6_putPattern : ByteArray := prog_8_method_56_code
def yX6_putPattern : MethodName := ⟨RX6, "putPattern", "(II)V"⟩
abbrev cX6_print : ByteArray := prog_8_method_57_code
def yX6_print : MethodName := ⟨RX6, "print", "(I)V"⟩
abbrev cX6_printAll : ByteArray := prog_8_method_58_code
def yX6_printAll : MethodName := ⟨RX6, "printAll", "(I)V"⟩
abbrev cX6_write : ByteArray := prog_8_method_59_code
def yX6_write : MethodName := ⟨RX6, "write", "(I)I"⟩
abbrev cX6_count : ByteArray := prog_8_method_60_code
def yX6_count : MethodName := ⟨RX6, "count", "(I)I"⟩
def RJ13 : String := "java/lang/Long"
def TJ13 : u_T := fun k => match k with
  | _ => ("", "", "", false)
def tyJ13 : Nat → FieldType := fun k => match k with
  | _ => .int
theorem nmJ13 : ∀ a, a < 0 → ∀ b, b < 0 → a ≠ b → (TJ13 a).2.1 ≠ (TJ13 b).2.1 := by decide +kernel
theorem tyJ13_ok : ∀ k, k < 0 → parseFieldDescriptor (TJ13 k).2.2.1 = some (tyJ13 k) := by decide +kernel
abbrev cJ13_bitCount_95d88 : ByteArray := prog_11_method_50_code
def yJ13_bitCount_95d88 : MethodName := ⟨RJ13, "bitCount", "(J)I"⟩
def RJ9 : String := "java/lang/Math"
def TJ9 : u_T := fun k => match k with
  | _ => ("", "", "", false)
def tyJ9 : Nat → FieldType := fun k => match k with
  | _ => .int
theorem nmJ9 : ∀ a, a < 0 → ∀ b, b < 0 → a ≠ b → (TJ9 a).2.1 ≠ (TJ9 b).2.1 := by decide +kernel
theorem tyJ9_ok : ∀ k, k < 0 → parseFieldDescriptor (TJ9 k).2.2.1 = some (tyJ9 k) := by decide +kernel
abbrev cJ9_floorMod_f86c9 : ByteArray := prog_12_method_52_code
def yJ9_floorMod_f86c9 : MethodName := ⟨RJ9, "floorMod", "(JJ)J"⟩
def RJ0 : String := "java/lang/String"
def TJ0 : u_T := fun k => match k with
  | _ => ("", "", "", false)
def tyJ0 : Nat → FieldType := fun k => match k with
  | _ => .int
theorem nmJ0 : ∀ a, a < 0 → ∀ b, b < 0 → a ≠ b → (TJ0 a).2.1 ≠ (TJ0 b).2.1 := by decide +kernel
theorem tyJ0_ok : ∀ k, k < 0 → parseFieldDescriptor (TJ0 k).2.2.1 = some (tyJ0 k) := by decide +kernel
abbrev cJ0_length_8abf5 : ByteArray := prog_14_method_54_code
def yJ0_length_8abf5 : MethodName := ⟨RJ0, "length", "()I"⟩
abbrev cJ0_charAt_5068e : ByteArray := prog_14_method_56_code
def yJ0_charAt_5068e : MethodName := ⟨RJ0, "charAt", "(I)C"⟩
abbrev cJ0_coder_7d493 : ByteArray := prog_14_method_152_code
def yJ0_coder_7d493 : MethodName := ⟨RJ0, "coder", "()B"⟩
abbrev cJ0_isLatin1_aae02 : ByteArray := prog_14_method_154_code
def yJ0_isLatin1_aae02 : MethodName := ⟨RJ0, "isLatin1", "()Z"⟩
abbrev cJ0_checkIndex_df160 : ByteArray := prog_14_method_155_code
def yJ0_checkIndex_df160 : MethodName := ⟨RJ0, "checkIndex", "(II)V"⟩
def RJ1 : String := "java/lang/StringLatin1"
def TJ1 : u_T := fun k => match k with
  | _ => ("", "", "", false)
def tyJ1 : Nat → FieldType := fun k => match k with
  | _ => .int
theorem nmJ1 : ∀ a, a < 0 → ∀ b, b < 0 → a ≠ b → (TJ1 a).2.1 ≠ (TJ1 b).2.1 := by decide +kernel
theorem tyJ1_ok : ∀ k, k < 0 → parseFieldDescriptor (TJ1 k).2.2.1 = some (tyJ1 k) := by decide +kernel
abbrev cJ1_charAt_3b067 : ByteArray := prog_15_method_2_code
def yJ1_charAt_3b067 : MethodName := ⟨RJ1, "charAt", "([BI)C"⟩
def RJ2 : String := "java/lang/StringUTF16"
def TJ2 : u_T := fun k => match k with
  | _ => ("", "", "", false)
def tyJ2 : Nat → FieldType := fun k => match k with
  | _ => .int
theorem nmJ2 : ∀ a, a < 0 → ∀ b, b < 0 → a ≠ b → (TJ2 a).2.1 ≠ (TJ2 b).2.1 := by decide +kernel
theorem tyJ2_ok : ∀ k, k < 0 → parseFieldDescriptor (TJ2 k).2.2.1 = some (tyJ2 k) := by decide +kernel
abbrev cJ2_getChar_3b067 : ByteArray := prog_16_method_5_code
def yJ2_getChar_3b067 : MethodName := ⟨RJ2, "getChar", "([BI)C"⟩
abbrev cJ2_length_9d52b : ByteArray := prog_16_method_6_code
def yJ2_length_9d52b : MethodName := ⟨RJ2, "length", "([B)I"⟩
abbrev cJ2_charAt_3b067 : ByteArray := prog_16_method_83_code
def yJ2_charAt_3b067 : MethodName := ⟨RJ2, "charAt", "([BI)C"⟩
abbrev cJ2_checkIndex_2214a : ByteArray := prog_16_method_91_code
def yJ2_checkIndex_2214a : MethodName := ⟨RJ2, "checkIndex", "(I[B)V"⟩
def RJ7 : String := "java/util/Arrays"
def TJ7 : u_T := fun k => match k with
  | _ => ("", "", "", false)
def tyJ7 : Nat → FieldType := fun k => match k with
  | _ => .int
theorem nmJ7 : ∀ a, a < 0 → ∀ b, b < 0 → a ≠ b → (TJ7 a).2.1 ≠ (TJ7 b).2.1 := by decide +kernel
theorem tyJ7_ok : ∀ k, k < 0 → parseFieldDescriptor (TJ7 k).2.2.1 = some (tyJ7 k) := by decide +kernel
abbrev cJ7_fill_53178 : ByteArray := prog_18_method_103_code
def yJ7_fill_53178 : MethodName := ⟨RJ7, "fill", "([II)V"⟩
def RJ3 : String := "jdk/internal/util/Preconditions"
def TJ3 : u_T := fun k => match k with
  | _ => ("", "", "", false)
def tyJ3 : Nat → FieldType := fun k => match k with
  | _ => .int
theorem nmJ3 : ∀ a, a < 0 → ∀ b, b < 0 → a ≠ b → (TJ3 a).2.1 ≠ (TJ3 b).2.1 := by decide +kernel
theorem tyJ3_ok : ∀ k, k < 0 → parseFieldDescriptor (TJ3 k).2.2.1 = some (tyJ3 k) := by decide +kernel
abbrev cJ3_checkIndex_8e157 : ByteArray := prog_19_method_11_code
def yJ3_checkIndex_8e157 : MethodName := ⟨RJ3, "checkIndex", "(IILjava/util/function/BiFunction;)I"⟩
def RL : String := "ConstraintTextLaw"
abbrev cL_name : ByteArray := method_3_code
def yL_name : MethodName := ⟨RL, "name", "(LConstraintText;II[J)I"⟩
abbrev cL_clock : ByteArray := method_4_code
def yL_clock : MethodName := ⟨RL, "clock", "(LConstraintText;II[J)I"⟩
abbrev cL_edge : ByteArray := method_5_code
def yL_edge : MethodName := ⟨RL, "edge", "(LConstraintText;III[J)I"⟩
abbrev cL_distance : ByteArray := method_6_code
def yL_distance : MethodName := ⟨RL, "distance", "(LConstraintText;III[J)I"⟩
abbrev cL_exception : ByteArray := method_7_code
def yL_exception : MethodName := ⟨RL, "exception", "(LConstraintText;III[J)I"⟩
abbrev cL_row : ByteArray := method_8_code
def yL_row : MethodName := ⟨RL, "row", "(LConstraintText;II[J)I"⟩
abbrev cL_load : ByteArray := method_9_code
def yL_load : MethodName := ⟨RL, "load", "(LConstraintText;II[J)I"⟩
abbrev cL_unmatched : ByteArray := method_10_code
def yL_unmatched : MethodName := ⟨RL, "unmatched", "(LConstraintText;I[J)I"⟩
abbrev cL_clash : ByteArray := method_11_code
def yL_clash : MethodName := ⟨RL, "clash", "(LConstraintText;II[J)I"⟩
abbrev cL_write : ByteArray := method_12_code
def yL_write : MethodName := ⟨RL, "write", "(LConstraintText;I[J)I"⟩
abbrev cL_count : ByteArray := method_13_code
def yL_count : MethodName := ⟨RL, "count", "(LConstraintText;I[J)I"⟩
abbrev cL_law : ByteArray := code
def yL_law : MethodName := ⟨RL, "law", "([I)Z"⟩
abbrev vwCl : List vw_C := [(RX0, TX0, 12), (RX1, TX1, 2), (RX2, TX2, 8), (RX3, TX3, 10), (RX4, TX4, 2), (RX5, TX5, 4), (RX6, TX6, 33)]
end
section
theorem tw_0 : (Cond.selects "ConstraintText$Reader" ⟨"ConstraintText$Reader", "takeWord", "()V"⟩ ⟨"ConstraintText$Reader", "takeWord", "()V"⟩) ∈ gtb := tc_s 0 (by decide +kernel) rfl
theorem tw_1 : (Cond.selects "ConstraintText$Reader" ⟨"ConstraintText$Reader", "takeRow", "()Z"⟩ ⟨"ConstraintText$Reader", "takeRow", "()Z"⟩) ∈ gtb := tc_s 1 (by decide +kernel) rfl
theorem tw_2 : (Cond.selects "ConstraintText$Reader" ⟨"ConstraintText$Reader", "sortInHand", "()I"⟩ ⟨"ConstraintText$Reader", "sortInHand", "()I"⟩) ∈ gtb := tc_s 2 (by decide +kernel) rfl
theorem tw_3 : (Cond.selects "ConstraintText$Reader" ⟨"ConstraintText$Reader", "isInHand", "(Ljava/lang/String;)Z"⟩ ⟨"ConstraintText$Reader", "isInHand", "(Ljava/lang/String;)Z"⟩) ∈ gtb := tc_s 3 (by decide +kernel) rfl
theorem tw_4 : (Cond.selects "ConstraintText$Reader" ⟨"ConstraintText$Reader", "printWord", "()V"⟩ ⟨"ConstraintText$Reader", "printWord", "()V"⟩) ∈ gtb := tc_s 4 (by decide +kernel) rfl
theorem tw_5 : (Cond.selects "ConstraintText$Reader" ⟨"ConstraintText$Reader", "takeNewClock", "()Z"⟩ ⟨"ConstraintText$Reader", "takeNewClock", "()Z"⟩) ∈ gtb := tc_s 5 (by decide +kernel) rfl
theorem tw_6 : (Cond.selects "ConstraintText$Reader" ⟨"ConstraintText$Reader", "isNameInHand", "()Z"⟩ ⟨"ConstraintText$Reader", "isNameInHand", "()Z"⟩) ∈ gtb := tc_s 6 (by decide +kernel) rfl
theorem tw_7 : (Cond.selects "ConstraintText$Reader" ⟨"ConstraintText$Reader", "clockNamed", "(II)I"⟩ ⟨"ConstraintText$Reader", "clockNamed", "(II)I"⟩) ∈ gtb := tc_s 7 (by decide +kernel) rfl
theorem tw_8 : (Cond.selects "ConstraintText$Reader" ⟨"ConstraintText$Reader", "isSameText", "(III)Z"⟩ ⟨"ConstraintText$Reader", "isSameText", "(III)Z"⟩) ∈ gtb := tc_s 8 (by decide +kernel) rfl
theorem tw_9 : (Cond.selects "ConstraintText$Reader" ⟨"ConstraintText$Reader", "takeTimes", "()Z"⟩ ⟨"ConstraintText$Reader", "takeTimes", "()Z"⟩) ∈ gtb := tc_s 9 (by decide +kernel) rfl
theorem tw_10 : (Cond.selects "ConstraintText$Reader" ⟨"ConstraintText$Reader", "takeWhole", "(II)I"⟩ ⟨"ConstraintText$Reader", "takeWhole", "(II)I"⟩) ∈ gtb := tc_s 10 (by decide +kernel) rfl
theorem tw_11 : (Cond.selects "ConstraintText$Reader" ⟨"ConstraintText$Reader", "wholeInHand", "()I"⟩ ⟨"ConstraintText$Reader", "wholeInHand", "()I"⟩) ∈ gtb := tc_s 11 (by decide +kernel) rfl
theorem tw_12 : (Cond.selects "ConstraintText$Reader" ⟨"ConstraintText$Reader", "takePattern", "(I)Z"⟩ ⟨"ConstraintText$Reader", "takePattern", "(I)Z"⟩) ∈ gtb := tc_s 12 (by decide +kernel) rfl
theorem tw_13 : (Cond.selects "ConstraintText$Reader" ⟨"ConstraintText$Reader", "keepPattern", "(I)Z"⟩ ⟨"ConstraintText$Reader", "keepPattern", "(I)Z"⟩) ∈ gtb := tc_s 13 (by decide +kernel) rfl
theorem tw_14 : (Cond.selects "ConstraintText$Reader" ⟨"ConstraintText$Reader", "isPatternInHand", "()Z"⟩ ⟨"ConstraintText$Reader", "isPatternInHand", "()Z"⟩) ∈ gtb := tc_s 14 (by decide +kernel) rfl
theorem tw_15 : (Cond.selects "ConstraintText$Sheet" ⟨"ConstraintText$Sheet", "patternOf", "(II)I"⟩ ⟨"ConstraintText$Sheet", "patternOf", "(II)I"⟩) ∈ gtb := tc_s 15 (by decide +kernel) rfl
theorem tw_16 : (Cond.selects "ConstraintText$Reader" ⟨"ConstraintText$Reader", "takeLink", "(I)Z"⟩ ⟨"ConstraintText$Reader", "takeLink", "(I)Z"⟩) ∈ gtb := tc_s 16 (by decide +kernel) rfl
theorem tw_17 : (Cond.selects "ConstraintText$Reader" ⟨"ConstraintText$Reader", "takeRatio", "(Z)Z"⟩ ⟨"ConstraintText$Reader", "takeRatio", "(Z)Z"⟩) ∈ gtb := tc_s 17 (by decide +kernel) rfl
theorem tw_18 : (Cond.selects "ConstraintText$Reader" ⟨"ConstraintText$Reader", "takePath", "()Z"⟩ ⟨"ConstraintText$Reader", "takePath", "()Z"⟩) ∈ gtb := tc_s 18 (by decide +kernel) rfl
theorem tw_19 : (Cond.selects "ConstraintText$Reader" ⟨"ConstraintText$Reader", "isAnyInHand", "()Z"⟩ ⟨"ConstraintText$Reader", "isAnyInHand", "()Z"⟩) ∈ gtb := tc_s 19 (by decide +kernel) rfl
theorem tw_20 : (Cond.selects "ConstraintText$Sheet" ⟨"ConstraintText$Sheet", "hasPattern", "(II)Z"⟩ ⟨"ConstraintText$Sheet", "hasPattern", "(II)Z"⟩) ∈ gtb := tc_s 20 (by decide +kernel) rfl
theorem tw_21 : (Cond.selects "ConstraintText$Reader" ⟨"ConstraintText$Reader", "takeValue", "(II)Z"⟩ ⟨"ConstraintText$Reader", "takeValue", "(II)Z"⟩) ∈ gtb := tc_s 21 (by decide +kernel) rfl
theorem tw_22 : (Cond.selects "ConstraintText$Reader" ⟨"ConstraintText$Reader", "takeEnd", "()Z"⟩ ⟨"ConstraintText$Reader", "takeEnd", "()Z"⟩) ∈ gtb := tc_s 22 (by decide +kernel) rfl
theorem tw_23 : (Cond.selects "ConstraintText$Reader" ⟨"ConstraintText$Reader", "bindLinks", "()Z"⟩ ⟨"ConstraintText$Reader", "bindLinks", "()Z"⟩) ∈ gtb := tc_s 23 (by decide +kernel) rfl
theorem tw_24 : (Cond.selects "ConstraintText$Reader" ⟨"ConstraintText$Reader", "hasNoRing", "()Z"⟩ ⟨"ConstraintText$Reader", "hasNoRing", "()Z"⟩) ∈ gtb := tc_s 24 (by decide +kernel) rfl
theorem tw_25 : (Cond.selects "ConstraintText$Reader" ⟨"ConstraintText$Reader", "hasNoneGreat", "()Z"⟩ ⟨"ConstraintText$Reader", "hasNoneGreat", "()Z"⟩) ∈ gtb := tc_s 25 (by decide +kernel) rfl
theorem tw_26 : (Cond.selects "ConstraintText$ClockTable" ⟨"ConstraintText$ClockTable", "settle", "(II)V"⟩ ⟨"ConstraintText$ClockTable", "settle", "(II)V"⟩) ∈ gtb := tc_s 26 (by decide +kernel) rfl
theorem tw_27 : (Cond.selects "ConstraintText$Sheet" ⟨"ConstraintText$Sheet", "fits", "(ILConstraintText$Pins;I)Z"⟩ ⟨"ConstraintText$Sheet", "fits", "(ILConstraintText$Pins;I)Z"⟩) ∈ gtb := tc_s 27 (by decide +kernel) rfl
theorem tw_28 : (Cond.selects "ConstraintText$Sheet" ⟨"ConstraintText$Sheet", "reachedByStars", "(I)I"⟩ ⟨"ConstraintText$Sheet", "reachedByStars", "(I)I"⟩) ∈ gtb := tc_s 28 (by decide +kernel) rfl
theorem tw_29 : (Cond.selects "ConstraintText$Sheet" ⟨"ConstraintText$Sheet", "reachedBy", "(III)I"⟩ ⟨"ConstraintText$Sheet", "reachedBy", "(III)I"⟩) ∈ gtb := tc_s 29 (by decide +kernel) rfl
theorem tw_30 : (Cond.selects "java/lang/Throwable" ⟨"java/lang/Throwable", "fillInStackTrace", "(I)Ljava/lang/Throwable;"⟩ ⟨"java/lang/Throwable", "fillInStackTrace", "(I)Ljava/lang/Throwable;"⟩) ∈ gtb := tc_s 30 (by decide +kernel) rfl
theorem tw_31 : (Cond.selects "ConstraintText$Sheet" ⟨"ConstraintText$Sheet", "admits", "(III)Z"⟩ ⟨"ConstraintText$Sheet", "admits", "(III)Z"⟩) ∈ gtb := tc_s 31 (by decide +kernel) rfl
theorem tw_32 : (Cond.selects "ConstraintText$Sheet" ⟨"ConstraintText$Sheet", "matches", "(III)Z"⟩ ⟨"ConstraintText$Sheet", "matches", "(III)Z"⟩) ∈ gtb := tc_s 32 (by decide +kernel) rfl
theorem tw_33 : (Cond.selects "ConstraintText$Sheet" ⟨"ConstraintText$Sheet", "weightOf", "(I)I"⟩ ⟨"ConstraintText$Sheet", "weightOf", "(I)I"⟩) ∈ gtb := tc_s 33 (by decide +kernel) rfl
theorem tw_34 : (Cond.selects "ConstraintText$Sheet" ⟨"ConstraintText$Sheet", "isIdle", "(I)Z"⟩ ⟨"ConstraintText$Sheet", "isIdle", "(I)Z"⟩) ∈ gtb := tc_s 34 (by decide +kernel) rfl
theorem tw_35 : (Cond.selects "ConstraintText$Sheet" ⟨"ConstraintText$Sheet", "haveClash", "(II)Z"⟩ ⟨"ConstraintText$Sheet", "haveClash", "(II)Z"⟩) ∈ gtb := tc_s 35 (by decide +kernel) rfl
theorem tw_36 : (Cond.selects "ConstraintTextModel" ⟨"ConstraintTextModel", "next", "()V"⟩ ⟨"ConstraintTextModel", "next", "()V"⟩) ∈ gtb := tc_s 36 (by decide +kernel) rfl
theorem tw_37 : (Cond.selects "ConstraintTextModel" ⟨"ConstraintTextModel", "readRow", "()V"⟩ ⟨"ConstraintTextModel", "readRow", "()V"⟩) ∈ gtb := tc_s 37 (by decide +kernel) rfl
theorem tw_38 : (Cond.selects "ConstraintTextModel" ⟨"ConstraintTextModel", "wordName", "()J"⟩ ⟨"ConstraintTextModel", "wordName", "()J"⟩) ∈ gtb := tc_s 38 (by decide +kernel) rfl
theorem tw_39 : (Cond.selects "ConstraintTextModel" ⟨"ConstraintTextModel", "sortOf", "(J)I"⟩ ⟨"ConstraintTextModel", "sortOf", "(J)I"⟩) ∈ gtb := tc_s 39 (by decide +kernel) rfl
theorem tw_40 : (Cond.selects "ConstraintTextModel" ⟨"ConstraintTextModel", "take", "(Z)V"⟩ ⟨"ConstraintTextModel", "take", "(Z)V"⟩) ∈ gtb := tc_s 40 (by decide +kernel) rfl
theorem tw_41 : (Cond.selects "ConstraintTextModel" ⟨"ConstraintTextModel", "readClock", "(I)V"⟩ ⟨"ConstraintTextModel", "readClock", "(I)V"⟩) ∈ gtb := tc_s 41 (by decide +kernel) rfl
theorem tw_42 : (Cond.selects "ConstraintTextModel" ⟨"ConstraintTextModel", "takeNew", "(I)V"⟩ ⟨"ConstraintTextModel", "takeNew", "(I)V"⟩) ∈ gtb := tc_s 42 (by decide +kernel) rfl
theorem tw_43 : (Cond.selects "ConstraintTextModel" ⟨"ConstraintTextModel", "clockOf", "(J)I"⟩ ⟨"ConstraintTextModel", "clockOf", "(J)I"⟩) ∈ gtb := tc_s 43 (by decide +kernel) rfl
theorem tw_44 : (Cond.selects "ConstraintTextModel" ⟨"ConstraintTextModel", "takeWhole", "(II)I"⟩ ⟨"ConstraintTextModel", "takeWhole", "(II)I"⟩) ∈ gtb := tc_s 44 (by decide +kernel) rfl
theorem tw_45 : (Cond.selects "ConstraintTextModel" ⟨"ConstraintTextModel", "whole", "()I"⟩ ⟨"ConstraintTextModel", "whole", "()I"⟩) ∈ gtb := tc_s 45 (by decide +kernel) rfl
theorem tw_46 : (Cond.selects "ConstraintTextModel" ⟨"ConstraintTextModel", "takePattern", "(IIZ)V"⟩ ⟨"ConstraintTextModel", "takePattern", "(IIZ)V"⟩) ∈ gtb := tc_s 46 (by decide +kernel) rfl
theorem tw_47 : (Cond.selects "ConstraintTextModel" ⟨"ConstraintTextModel", "isPattern", "()Z"⟩ ⟨"ConstraintTextModel", "isPattern", "()Z"⟩) ∈ gtb := tc_s 47 (by decide +kernel) rfl
theorem tw_48 : (Cond.selects "ConstraintTextModel" ⟨"ConstraintTextModel", "readDerived", "(I)V"⟩ ⟨"ConstraintTextModel", "readDerived", "(I)V"⟩) ∈ gtb := tc_s 48 (by decide +kernel) rfl
theorem tw_49 : (Cond.selects "ConstraintTextModel" ⟨"ConstraintTextModel", "takeOld", "(IZ)V"⟩ ⟨"ConstraintTextModel", "takeOld", "(IZ)V"⟩) ∈ gtb := tc_s 49 (by decide +kernel) rfl
theorem tw_50 : (Cond.selects "ConstraintTextModel" ⟨"ConstraintTextModel", "readException", "(I)V"⟩ ⟨"ConstraintTextModel", "readException", "(I)V"⟩) ∈ gtb := tc_s 50 (by decide +kernel) rfl
theorem tw_51 : (Cond.selects "ConstraintTextModel" ⟨"ConstraintTextModel", "takeEnd", "()V"⟩ ⟨"ConstraintTextModel", "takeEnd", "()V"⟩) ∈ gtb := tc_s 51 (by decide +kernel) rfl
theorem tw_52 : (Cond.selects "ConstraintTextModel" ⟨"ConstraintTextModel", "unknown", "()I"⟩ ⟨"ConstraintTextModel", "unknown", "()I"⟩) ∈ gtb := tc_s 52 (by decide +kernel) rfl
theorem tw_53 : (Cond.selects "ConstraintTextModel" ⟨"ConstraintTextModel", "findFrom", "()V"⟩ ⟨"ConstraintTextModel", "findFrom", "()V"⟩) ∈ gtb := tc_s 53 (by decide +kernel) rfl
theorem tw_54 : (Cond.selects "ConstraintTextModel" ⟨"ConstraintTextModel", "ring", "()I"⟩ ⟨"ConstraintTextModel", "ring", "()I"⟩) ∈ gtb := tc_s 54 (by decide +kernel) rfl
theorem tw_55 : (Cond.selects "ConstraintTextModel" ⟨"ConstraintTextModel", "greatOne", "()I"⟩ ⟨"ConstraintTextModel", "greatOne", "()I"⟩) ∈ gtb := tc_s 55 (by decide +kernel) rfl
theorem tw_56 : (Cond.selects "ConstraintTextModel" ⟨"ConstraintTextModel", "depth", "(I)I"⟩ ⟨"ConstraintTextModel", "depth", "(I)I"⟩) ∈ gtb := tc_s 56 (by decide +kernel) rfl
theorem tw_57 : (Cond.selects "ConstraintTextModel" ⟨"ConstraintTextModel", "reckon", "(I)V"⟩ ⟨"ConstraintTextModel", "reckon", "(I)V"⟩) ∈ gtb := tc_s 57 (by decide +kernel) rfl
theorem tw_58 : (Cond.selects "ConstraintTextModel" ⟨"ConstraintTextModel", "adopt", "()V"⟩ ⟨"ConstraintTextModel", "adopt", "()V"⟩) ∈ gtb := tc_s 58 (by decide +kernel) rfl
theorem tw_59 : (Cond.selects "ConstraintTextModel" ⟨"ConstraintTextModel", "isClock", "(I)Z"⟩ ⟨"ConstraintTextModel", "isClock", "(I)Z"⟩) ∈ gtb := tc_s 59 (by decide +kernel) rfl
theorem tw_60 : (Cond.selects "ConstraintTextModel" ⟨"ConstraintTextModel", "matched", "(II)I"⟩ ⟨"ConstraintTextModel", "matched", "(II)I"⟩) ∈ gtb := tc_s 60 (by decide +kernel) rfl
theorem tw_61 : (Cond.selects "ConstraintTextModel" ⟨"ConstraintTextModel", "matches", "(III)Z"⟩ ⟨"ConstraintTextModel", "matches", "(III)Z"⟩) ∈ gtb := tc_s 61 (by decide +kernel) rfl
theorem tw_62 : (Cond.selects "ConstraintTextModel" ⟨"ConstraintTextModel", "areApart", "(II)Z"⟩ ⟨"ConstraintTextModel", "areApart", "(II)Z"⟩) ∈ gtb := tc_s 62 (by decide +kernel) rfl
theorem tw_63 : (Cond.selects "ConstraintTextModel" ⟨"ConstraintTextModel", "fits", "(III)Z"⟩ ⟨"ConstraintTextModel", "fits", "(III)Z"⟩) ∈ gtb := tc_s 63 (by decide +kernel) rfl
theorem tw_64 : (Cond.selects "ConstraintTextModel" ⟨"ConstraintTextModel", "strength", "(I)I"⟩ ⟨"ConstraintTextModel", "strength", "(I)I"⟩) ∈ gtb := tc_s 64 (by decide +kernel) rfl
theorem tw_65 : (Cond.selects "ConstraintTextModel" ⟨"ConstraintTextModel", "isUnmatched", "(I)Z"⟩ ⟨"ConstraintTextModel", "isUnmatched", "(I)Z"⟩) ∈ gtb := tc_s 65 (by decide +kernel) rfl
theorem tw_66 : (Cond.selects "ConstraintTextModel" ⟨"ConstraintTextModel", "areClashing", "(II)Z"⟩ ⟨"ConstraintTextModel", "areClashing", "(II)Z"⟩) ∈ gtb := tc_s 66 (by decide +kernel) rfl
theorem tw_67 : (Cond.selects "ConstraintTextModel" ⟨"ConstraintTextModel", "printAll", "(I)V"⟩ ⟨"ConstraintTextModel", "printAll", "(I)V"⟩) ∈ gtb := tc_s 67 (by decide +kernel) rfl
theorem tw_68 : (Cond.selects "ConstraintTextModel" ⟨"ConstraintTextModel", "print", "(I)V"⟩ ⟨"ConstraintTextModel", "print", "(I)V"⟩) ∈ gtb := tc_s 68 (by decide +kernel) rfl
theorem tw_69 : (Cond.selects "ConstraintTextModel" ⟨"ConstraintTextModel", "putWord", "(J)V"⟩ ⟨"ConstraintTextModel", "putWord", "(J)V"⟩) ∈ gtb := tc_s 69 (by decide +kernel) rfl
theorem tw_70 : (Cond.selects "ConstraintTextModel" ⟨"ConstraintTextModel", "put", "(I)V"⟩ ⟨"ConstraintTextModel", "put", "(I)V"⟩) ∈ gtb := tc_s 70 (by decide +kernel) rfl
theorem tw_71 : (Cond.selects "ConstraintTextModel" ⟨"ConstraintTextModel", "putWhole", "(I)V"⟩ ⟨"ConstraintTextModel", "putWhole", "(I)V"⟩) ∈ gtb := tc_s 71 (by decide +kernel) rfl
theorem tw_72 : (Cond.selects "ConstraintTextModel" ⟨"ConstraintTextModel", "putPattern", "(II)V"⟩ ⟨"ConstraintTextModel", "putPattern", "(II)V"⟩) ∈ gtb := tc_s 72 (by decide +kernel) rfl
theorem tw_73 : (Jvm.Cond.initialized "ConstraintTextLaw") ∈ gtb := tc_1 0 (by decide +kernel) rfl
theorem tw_74 : (Jvm.Cond.initialized "ConstraintText") ∈ gtb := tc_1 1 (by decide +kernel) rfl
theorem tw_75 : (Jvm.Cond.initialized "ConstraintText$Reader") ∈ gtb := tc_1 2 (by decide +kernel) rfl
theorem tw_76 : (Jvm.Cond.initialized "ConstraintText$Tape") ∈ gtb := tc_1 3 (by decide +kernel) rfl
theorem tw_77 : (Jvm.Cond.initialized "ConstraintText$Sheet") ∈ gtb := tc_1 4 (by decide +kernel) rfl
theorem tw_78 : (Jvm.Cond.initialized "ConstraintText$ClockTable") ∈ gtb := tc_1 5 (by decide +kernel) rfl
theorem tw_79 : (Jvm.Cond.initialized "ConstraintText$Pins") ∈ gtb := tc_1 6 (by decide +kernel) rfl
theorem tw_80 : (Jvm.Cond.initialized "ConstraintTextModel") ∈ gtb := tc_1 7 (by decide +kernel) rfl
theorem tw_81 : (Jvm.Cond.initialized "java/lang/Throwable") ∈ gtb := tc_1 8 (by decide +kernel) rfl
theorem tw_82 : (Jvm.Cond.initialized "java/lang/Exception") ∈ gtb := tc_1 9 (by decide +kernel) rfl
theorem tw_83 : (Jvm.Cond.initialized "java/lang/RuntimeException") ∈ gtb := tc_1 10 (by decide +kernel) rfl
theorem tw_84 : (Jvm.Cond.initialized "java/lang/IndexOutOfBoundsException") ∈ gtb := tc_1 11 (by decide +kernel) rfl
theorem tw_85 : (Jvm.Cond.initialized "java/util/Arrays") ∈ gtb := tc_1 12 (by decide +kernel) rfl
theorem tw_86 : (Jvm.Cond.initialized "java/lang/String") ∈ gtb := tc_1 13 (by decide +kernel) rfl
theorem tw_87 : (Jvm.Cond.initialized "java/lang/StringLatin1") ∈ gtb := tc_1 14 (by decide +kernel) rfl
theorem tw_88 : (Jvm.Cond.initialized "jdk/internal/util/Preconditions") ∈ gtb := tc_1 15 (by decide +kernel) rfl
theorem tw_89 : (Jvm.Cond.initialized "java/lang/StringUTF16") ∈ gtb := tc_1 16 (by decide +kernel) rfl
theorem tw_90 : (Jvm.Cond.initialized "java/lang/Long") ∈ gtb := tc_1 17 (by decide +kernel) rfl
theorem tw_91 : (Jvm.Cond.initialized "java/lang/Math") ∈ gtb := tc_1 18 (by decide +kernel) rfl
theorem tw_92 : (Jvm.Cond.classLink "ConstraintTextLaw" (8 : Nat) "ConstraintText") ∈ gtb := tc_1 19 (by decide +kernel) rfl
theorem tw_93 : (Jvm.Cond.instantiable "ConstraintText" (4 : Nat)) ∈ gtb := tc_1 20 (by decide +kernel) rfl
theorem tw_94 : (Jvm.Cond.methodLink "ConstraintTextLaw" (49 : Nat) ({ cls := "ConstraintText", name := "<init>", desc := "()V" } : Jvm.MethodName)) ∈ gtb := tc_1 21 (by decide +kernel) rfl
theorem tw_95 : (Jvm.Cond.instanceMethod ({ cls := "ConstraintText", name := "<init>", desc := "()V" } : Jvm.MethodName)) ∈ gtb := tc_1 22 (by decide +kernel) rfl
theorem tw_96 : (Jvm.Cond.code ({ cls := "ConstraintText", name := "<init>", desc := "()V" } : Jvm.MethodName) prog_1_method_1_code (1 : Nat) (Option.none : Option Jvm.ClassFile.FieldType)) ∈ gtb := tc_1 23 (by decide +kernel) rfl
theorem tw_97 : (Jvm.Cond.methodLink "ConstraintText" (3 : Nat) ({ cls := "java/lang/Object", name := "<init>", desc := "()V" } : Jvm.MethodName)) ∈ gtb := tc_1 24 (by decide +kernel) rfl
theorem tw_98 : (Jvm.Cond.instanceMethod ({ cls := "java/lang/Object", name := "<init>", desc := "()V" } : Jvm.MethodName)) ∈ gtb := tc_1 25 (by decide +kernel) rfl
theorem tw_99 : (Jvm.Cond.code ({ cls := "java/lang/Object", name := "<init>", desc := "()V" } : Jvm.MethodName) object_method_1_code (1 : Nat) (Option.none : Option Jvm.ClassFile.FieldType)) ∈ gtb := tc_1 26 (by decide +kernel) rfl
theorem tw_100 : (Jvm.Cond.classLink "ConstraintText" (9 : Nat) "ConstraintText$Reader") ∈ gtb := tc_1 27 (by decide +kernel) rfl
theorem tw_101 : (Jvm.Cond.instantiable "ConstraintText$Reader" (8 : Nat)) ∈ gtb := tc_1 28 (by decide +kernel) rfl
theorem tw_103 : (Jvm.Cond.instanceMethod ({ cls := "ConstraintText$Reader", name := "<init>", desc := "()V" } : Jvm.MethodName)) ∈ gtb := tc_1 30 (by decide +kernel) rfl
theorem tw_104 : (Jvm.Cond.code ({ cls := "ConstraintText$Reader", name := "<init>", desc := "()V" } : Jvm.MethodName) prog_4_method_1_code (1 : Nat) (Option.none : Option Jvm.ClassFile.FieldType)) ∈ gtb := tc_1 31 (by decide +kernel) rfl
theorem tw_105 : (Jvm.Cond.methodLink "ConstraintText$Reader" (3 : Nat) ({ cls := "java/lang/Object", name := "<init>", desc := "()V" } : Jvm.MethodName)) ∈ gtb := tc_1 32 (by decide +kernel) rfl
theorem tw_106 : (Jvm.Cond.classLink "ConstraintText$Reader" (9 : Nat) "ConstraintText$Tape") ∈ gtb := tc_1 33 (by decide +kernel) rfl
theorem tw_107 : (Jvm.Cond.instantiable "ConstraintText$Tape" (2 : Nat)) ∈ gtb := tc_1 34 (by decide +kernel) rfl
theorem tw_109 : (Jvm.Cond.instanceMethod ({ cls := "ConstraintText$Tape", name := "<init>", desc := "()V" } : Jvm.MethodName)) ∈ gtb := tc_1 36 (by decide +kernel) rfl
theorem tw_110 : (Jvm.Cond.code ({ cls := "ConstraintText$Tape", name := "<init>", desc := "()V" } : Jvm.MethodName) prog_6_method_1_code (1 : Nat) (Option.none : Option Jvm.ClassFile.FieldType)) ∈ gtb := tc_1 37 (by decide +kernel) rfl
theorem tw_111 : (Jvm.Cond.methodLink "ConstraintText$Tape" (3 : Nat) ({ cls := "java/lang/Object", name := "<init>", desc := "()V" } : Jvm.MethodName)) ∈ gtb := tc_1 38 (by decide +kernel) rfl
theorem tw_112 : (Jvm.Cond.fieldLink "ConstraintText$Tape" (9 : Nat) "ConstraintText$Tape" "units" "[C") ∈ gtb := tc_1 39 (by decide +kernel) rfl
theorem tw_113 : (Jvm.Cond.fieldLink "ConstraintText$Tape" (15 : Nat) "ConstraintText$Tape" "length" "I") ∈ gtb := tc_1 40 (by decide +kernel) rfl
theorem tw_116 : (Jvm.Cond.laysFinal "ConstraintText$Tape" "ConstraintText$Tape" "units" "[C") ∈ gtb := tc_1 43 (by decide +kernel) rfl
theorem tw_118 : (Jvm.Cond.lays "ConstraintText$Tape" "ConstraintText$Tape" "length" "I") ∈ gtb := tc_1 45 (by decide +kernel) rfl
theorem tw_120 : (Jvm.Cond.superclass "ConstraintText$Tape" "java/lang/Object") ∈ gtb := tc_1 47 (by decide +kernel) rfl
theorem tw_121 : (Jvm.Cond.arrayClass Jvm.ClassFile.FieldType.char) ∈ gtb := tc_1 48 (by decide +kernel) rfl
theorem tw_122 : (Jvm.Cond.classLink "ConstraintText$Reader" (31 : Nat) "ConstraintText$Sheet") ∈ gtb := tc_1 49 (by decide +kernel) rfl
theorem tw_123 : (Jvm.Cond.instantiable "ConstraintText$Sheet" (10 : Nat)) ∈ gtb := tc_1 50 (by decide +kernel) rfl
theorem tw_125 : (Jvm.Cond.instanceMethod ({ cls := "ConstraintText$Sheet", name := "<init>", desc := "()V" } : Jvm.MethodName)) ∈ gtb := tc_1 52 (by decide +kernel) rfl
theorem tw_126 : (Jvm.Cond.code ({ cls := "ConstraintText$Sheet", name := "<init>", desc := "()V" } : Jvm.MethodName) prog_5_method_1_code (1 : Nat) (Option.none : Option Jvm.ClassFile.FieldType)) ∈ gtb := tc_1 53 (by decide +kernel) rfl
theorem tw_127 : (Jvm.Cond.methodLink "ConstraintText$Sheet" (3 : Nat) ({ cls := "java/lang/Object", name := "<init>", desc := "()V" } : Jvm.MethodName)) ∈ gtb := tc_1 54 (by decide +kernel) rfl
theorem tw_128 : (Jvm.Cond.classLink "ConstraintText$Sheet" (35 : Nat) "ConstraintText$ClockTable") ∈ gtb := tc_1 55 (by decide +kernel) rfl
theorem tw_129 : (Jvm.Cond.instantiable "ConstraintText$ClockTable" (12 : Nat)) ∈ gtb := tc_1 56 (by decide +kernel) rfl
theorem tw_131 : (Jvm.Cond.instanceMethod ({ cls := "ConstraintText$ClockTable", name := "<init>", desc := "()V" } : Jvm.MethodName)) ∈ gtb := tc_1 58 (by decide +kernel) rfl
theorem tw_132 : (Jvm.Cond.code ({ cls := "ConstraintText$ClockTable", name := "<init>", desc := "()V" } : Jvm.MethodName) prog_2_method_1_code (1 : Nat) (Option.none : Option Jvm.ClassFile.FieldType)) ∈ gtb := tc_1 59 (by decide +kernel) rfl
theorem tw_133 : (Jvm.Cond.methodLink "ConstraintText$ClockTable" (3 : Nat) ({ cls := "java/lang/Object", name := "<init>", desc := "()V" } : Jvm.MethodName)) ∈ gtb := tc_1 60 (by decide +kernel) rfl
theorem tw_134 : (Jvm.Cond.fieldLink "ConstraintText$ClockTable" (9 : Nat) "ConstraintText$ClockTable" "rows" "[I") ∈ gtb := tc_1 61 (by decide +kernel) rfl
theorem tw_137 : (Jvm.Cond.fieldLink "ConstraintText$ClockTable" (15 : Nat) "ConstraintText$ClockTable" "sources" "[I") ∈ gtb := tc_1 64 (by decide +kernel) rfl
theorem tw_139 : (Jvm.Cond.fieldLink "ConstraintText$ClockTable" (18 : Nat) "ConstraintText$ClockTable" "turned" "[Z") ∈ gtb := tc_1 66 (by decide +kernel) rfl
theorem tw_140 : (Jvm.Cond.fieldLink "ConstraintText$ClockTable" (22 : Nat) "ConstraintText$ClockTable" "timesBy" "[I") ∈ gtb := tc_1 67 (by decide +kernel) rfl
theorem tw_141 : (Jvm.Cond.fieldLink "ConstraintText$ClockTable" (25 : Nat) "ConstraintText$ClockTable" "dividedBy" "[I") ∈ gtb := tc_1 68 (by decide +kernel) rfl
theorem tw_142 : (Jvm.Cond.fieldLink "ConstraintText$ClockTable" (28 : Nat) "ConstraintText$ClockTable" "periods" "[J") ∈ gtb := tc_1 69 (by decide +kernel) rfl
theorem tw_143 : (Jvm.Cond.fieldLink "ConstraintText$ClockTable" (32 : Nat) "ConstraintText$ClockTable" "rises" "[J") ∈ gtb := tc_1 70 (by decide +kernel) rfl
theorem tw_144 : (Jvm.Cond.fieldLink "ConstraintText$ClockTable" (35 : Nat) "ConstraintText$ClockTable" "falls" "[J") ∈ gtb := tc_1 71 (by decide +kernel) rfl
theorem tw_145 : (Jvm.Cond.fieldLink "ConstraintText$ClockTable" (38 : Nat) "ConstraintText$ClockTable" "lowers" "[J") ∈ gtb := tc_1 72 (by decide +kernel) rfl
theorem tw_146 : (Jvm.Cond.fieldLink "ConstraintText$ClockTable" (41 : Nat) "ConstraintText$ClockTable" "settled" "[Z") ∈ gtb := tc_1 73 (by decide +kernel) rfl
theorem tw_147 : (Jvm.Cond.fieldLink "ConstraintText$ClockTable" (44 : Nat) "ConstraintText$ClockTable" "great" "[Z") ∈ gtb := tc_1 74 (by decide +kernel) rfl
theorem tw_149 : (Jvm.Cond.fieldLink "ConstraintText$ClockTable" (47 : Nat) "ConstraintText$ClockTable" "size" "I") ∈ gtb := tc_1 76 (by decide +kernel) rfl
theorem tw_152 : (Jvm.Cond.laysFinal "ConstraintText$ClockTable" "ConstraintText$ClockTable" "rows" "[I") ∈ gtb := tc_1 79 (by decide +kernel) rfl
theorem tw_154 : (Jvm.Cond.laysFinal "ConstraintText$ClockTable" "ConstraintText$ClockTable" "sources" "[I") ∈ gtb := tc_1 81 (by decide +kernel) rfl
theorem tw_156 : (Jvm.Cond.laysFinal "ConstraintText$ClockTable" "ConstraintText$ClockTable" "turned" "[Z") ∈ gtb := tc_1 83 (by decide +kernel) rfl
theorem tw_158 : (Jvm.Cond.laysFinal "ConstraintText$ClockTable" "ConstraintText$ClockTable" "timesBy" "[I") ∈ gtb := tc_1 85 (by decide +kernel) rfl
theorem tw_160 : (Jvm.Cond.laysFinal "ConstraintText$ClockTable" "ConstraintText$ClockTable" "dividedBy" "[I") ∈ gtb := tc_1 87 (by decide +kernel) rfl
theorem tw_162 : (Jvm.Cond.laysFinal "ConstraintText$ClockTable" "ConstraintText$ClockTable" "periods" "[J") ∈ gtb := tc_1 89 (by decide +kernel) rfl
theorem tw_164 : (Jvm.Cond.laysFinal "ConstraintText$ClockTable" "ConstraintText$ClockTable" "rises" "[J") ∈ gtb := tc_1 91 (by decide +kernel) rfl
theorem tw_166 : (Jvm.Cond.laysFinal "ConstraintText$ClockTable" "ConstraintText$ClockTable" "falls" "[J") ∈ gtb := tc_1 93 (by decide +kernel) rfl
theorem tw_168 : (Jvm.Cond.laysFinal "ConstraintText$ClockTable" "ConstraintText$ClockTable" "lowers" "[J") ∈ gtb := tc_1 95 (by decide +kernel) rfl
theorem tw_170 : (Jvm.Cond.laysFinal "ConstraintText$ClockTable" "ConstraintText$ClockTable" "settled" "[Z") ∈ gtb := tc_1 97 (by decide +kernel) rfl
theorem tw_172 : (Jvm.Cond.laysFinal "ConstraintText$ClockTable" "ConstraintText$ClockTable" "great" "[Z") ∈ gtb := tc_1 99 (by decide +kernel) rfl
theorem tw_174 : (Jvm.Cond.lays "ConstraintText$ClockTable" "ConstraintText$ClockTable" "size" "I") ∈ gtb := tc_1 101 (by decide +kernel) rfl
theorem tw_176 : (Jvm.Cond.superclass "ConstraintText$ClockTable" "java/lang/Object") ∈ gtb := tc_1 103 (by decide +kernel) rfl
theorem tw_177 : (Jvm.Cond.arrayClass Jvm.ClassFile.FieldType.int) ∈ gtb := tc_1 104 (by decide +kernel) rfl
theorem tw_178 : (Jvm.Cond.arrayClass Jvm.ClassFile.FieldType.long) ∈ gtb := tc_1 105 (by decide +kernel) rfl
theorem tw_179 : (Jvm.Cond.arrayClass Jvm.ClassFile.FieldType.boolean) ∈ gtb := tc_1 106 (by decide +kernel) rfl
theorem tw_180 : (Jvm.Cond.fieldLink "ConstraintText$Sheet" (9 : Nat) "ConstraintText$Sheet" "sorts" "[I") ∈ gtb := tc_1 107 (by decide +kernel) rfl
theorem tw_182 : (Jvm.Cond.fieldLink "ConstraintText$Sheet" (15 : Nat) "ConstraintText$Sheet" "values" "[I") ∈ gtb := tc_1 109 (by decide +kernel) rfl
theorem tw_184 : (Jvm.Cond.fieldLink "ConstraintText$Sheet" (18 : Nat) "ConstraintText$Sheet" "links" "[I") ∈ gtb := tc_1 111 (by decide +kernel) rfl
theorem tw_186 : (Jvm.Cond.fieldLink "ConstraintText$Sheet" (21 : Nat) "ConstraintText$Sheet" "patternStarts" "[I") ∈ gtb := tc_1 113 (by decide +kernel) rfl
theorem tw_187 : (Jvm.Cond.fieldLink "ConstraintText$Sheet" (24 : Nat) "ConstraintText$Sheet" "patternLengths" "[I") ∈ gtb := tc_1 114 (by decide +kernel) rfl
theorem tw_188 : (Jvm.Cond.fieldLink "ConstraintText$Sheet" (27 : Nat) "ConstraintText$Sheet" "hits" "[J") ∈ gtb := tc_1 115 (by decide +kernel) rfl
theorem tw_189 : (Jvm.Cond.fieldLink "ConstraintText$Sheet" (31 : Nat) "ConstraintText$Sheet" "printed" "[C") ∈ gtb := tc_1 116 (by decide +kernel) rfl
theorem tw_190 : (Jvm.Cond.fieldLink "ConstraintText$Sheet" (38 : Nat) "ConstraintText$Sheet" "clocks" "LConstraintText$ClockTable;") ∈ gtb := tc_1 117 (by decide +kernel) rfl
theorem tw_193 : (Jvm.Cond.fieldLink "ConstraintText$Sheet" (42 : Nat) "ConstraintText$Sheet" "rowCount" "I") ∈ gtb := tc_1 120 (by decide +kernel) rfl
theorem tw_196 : (Jvm.Cond.fieldLink "ConstraintText$Sheet" (46 : Nat) "ConstraintText$Sheet" "printedLength" "I") ∈ gtb := tc_1 123 (by decide +kernel) rfl
theorem tw_198 : (Jvm.Cond.laysFinal "ConstraintText$Sheet" "ConstraintText$Sheet" "sorts" "[I") ∈ gtb := tc_1 125 (by decide +kernel) rfl
theorem tw_200 : (Jvm.Cond.laysFinal "ConstraintText$Sheet" "ConstraintText$Sheet" "values" "[I") ∈ gtb := tc_1 127 (by decide +kernel) rfl
theorem tw_202 : (Jvm.Cond.laysFinal "ConstraintText$Sheet" "ConstraintText$Sheet" "links" "[I") ∈ gtb := tc_1 129 (by decide +kernel) rfl
theorem tw_204 : (Jvm.Cond.laysFinal "ConstraintText$Sheet" "ConstraintText$Sheet" "patternStarts" "[I") ∈ gtb := tc_1 131 (by decide +kernel) rfl
theorem tw_206 : (Jvm.Cond.laysFinal "ConstraintText$Sheet" "ConstraintText$Sheet" "patternLengths" "[I") ∈ gtb := tc_1 133 (by decide +kernel) rfl
theorem tw_208 : (Jvm.Cond.laysFinal "ConstraintText$Sheet" "ConstraintText$Sheet" "hits" "[J") ∈ gtb := tc_1 135 (by decide +kernel) rfl
theorem tw_210 : (Jvm.Cond.laysFinal "ConstraintText$Sheet" "ConstraintText$Sheet" "printed" "[C") ∈ gtb := tc_1 137 (by decide +kernel) rfl
theorem tw_212 : (Jvm.Cond.laysFinal "ConstraintText$Sheet" "ConstraintText$Sheet" "clocks" "LConstraintText$ClockTable;") ∈ gtb := tc_1 139 (by decide +kernel) rfl
theorem tw_214 : (Jvm.Cond.lays "ConstraintText$Sheet" "ConstraintText$Sheet" "rowCount" "I") ∈ gtb := tc_1 141 (by decide +kernel) rfl
theorem tw_216 : (Jvm.Cond.lays "ConstraintText$Sheet" "ConstraintText$Sheet" "printedLength" "I") ∈ gtb := tc_1 143 (by decide +kernel) rfl
theorem tw_218 : (Jvm.Cond.superclass "ConstraintText$Sheet" "java/lang/Object") ∈ gtb := tc_1 145 (by decide +kernel) rfl
theorem tw_219 : (Jvm.Cond.fieldLink "ConstraintText$Reader" (12 : Nat) "ConstraintText$Reader" "tape" "LConstraintText$Tape;") ∈ gtb := tc_1 146 (by decide +kernel) rfl
theorem tw_221 : (Jvm.Cond.fieldLink "ConstraintText$Reader" (18 : Nat) "ConstraintText$Reader" "nameStarts" "[I") ∈ gtb := tc_1 148 (by decide +kernel) rfl
theorem tw_222 : (Jvm.Cond.fieldLink "ConstraintText$Reader" (22 : Nat) "ConstraintText$Reader" "nameLengths" "[I") ∈ gtb := tc_1 149 (by decide +kernel) rfl
theorem tw_223 : (Jvm.Cond.fieldLink "ConstraintText$Reader" (25 : Nat) "ConstraintText$Reader" "linkStarts" "[I") ∈ gtb := tc_1 150 (by decide +kernel) rfl
theorem tw_224 : (Jvm.Cond.fieldLink "ConstraintText$Reader" (28 : Nat) "ConstraintText$Reader" "linkLengths" "[I") ∈ gtb := tc_1 151 (by decide +kernel) rfl
theorem tw_225 : (Jvm.Cond.fieldLink "ConstraintText$Reader" (34 : Nat) "ConstraintText$Reader" "sheet" "LConstraintText$Sheet;") ∈ gtb := tc_1 152 (by decide +kernel) rfl
theorem tw_226 : (Jvm.Cond.fieldLink "ConstraintText$Reader" (38 : Nat) "ConstraintText$Reader" "start" "I") ∈ gtb := tc_1 153 (by decide +kernel) rfl
theorem tw_227 : (Jvm.Cond.fieldLink "ConstraintText$Reader" (42 : Nat) "ConstraintText$Reader" "end" "I") ∈ gtb := tc_1 154 (by decide +kernel) rfl
theorem tw_228 : (Jvm.Cond.laysFinal "ConstraintText$Reader" "ConstraintText$Reader" "tape" "LConstraintText$Tape;") ∈ gtb := tc_1 155 (by decide +kernel) rfl
theorem tw_230 : (Jvm.Cond.laysFinal "ConstraintText$Reader" "ConstraintText$Reader" "nameStarts" "[I") ∈ gtb := tc_1 157 (by decide +kernel) rfl
theorem tw_232 : (Jvm.Cond.laysFinal "ConstraintText$Reader" "ConstraintText$Reader" "nameLengths" "[I") ∈ gtb := tc_1 159 (by decide +kernel) rfl
theorem tw_234 : (Jvm.Cond.laysFinal "ConstraintText$Reader" "ConstraintText$Reader" "linkStarts" "[I") ∈ gtb := tc_1 161 (by decide +kernel) rfl
theorem tw_236 : (Jvm.Cond.laysFinal "ConstraintText$Reader" "ConstraintText$Reader" "linkLengths" "[I") ∈ gtb := tc_1 163 (by decide +kernel) rfl
theorem tw_238 : (Jvm.Cond.lays "ConstraintText$Reader" "ConstraintText$Reader" "sheet" "LConstraintText$Sheet;") ∈ gtb := tc_1 165 (by decide +kernel) rfl
theorem tw_240 : (Jvm.Cond.lays "ConstraintText$Reader" "ConstraintText$Reader" "start" "I") ∈ gtb := tc_1 167 (by decide +kernel) rfl
theorem tw_242 : (Jvm.Cond.lays "ConstraintText$Reader" "ConstraintText$Reader" "end" "I") ∈ gtb := tc_1 169 (by decide +kernel) rfl
theorem tw_244 : (Jvm.Cond.superclass "ConstraintText$Reader" "java/lang/Object") ∈ gtb := tc_1 171 (by decide +kernel) rfl
theorem tw_245 : (Jvm.Cond.classLink "ConstraintText" (21 : Nat) "ConstraintText$Pins") ∈ gtb := tc_1 172 (by decide +kernel) rfl
theorem tw_246 : (Jvm.Cond.instantiable "ConstraintText$Pins" (2 : Nat)) ∈ gtb := tc_1 173 (by decide +kernel) rfl
theorem tw_248 : (Jvm.Cond.instanceMethod ({ cls := "ConstraintText$Pins", name := "<init>", desc := "()V" } : Jvm.MethodName)) ∈ gtb := tc_1 175 (by decide +kernel) rfl
theorem tw_249 : (Jvm.Cond.code ({ cls := "ConstraintText$Pins", name := "<init>", desc := "()V" } : Jvm.MethodName) prog_3_method_1_code (1 : Nat) (Option.none : Option Jvm.ClassFile.FieldType)) ∈ gtb := tc_1 176 (by decide +kernel) rfl
theorem tw_250 : (Jvm.Cond.methodLink "ConstraintText$Pins" (3 : Nat) ({ cls := "java/lang/Object", name := "<init>", desc := "()V" } : Jvm.MethodName)) ∈ gtb := tc_1 177 (by decide +kernel) rfl
theorem tw_251 : (Jvm.Cond.fieldLink "ConstraintText$Pins" (9 : Nat) "ConstraintText$Pins" "units" "[C") ∈ gtb := tc_1 178 (by decide +kernel) rfl
theorem tw_252 : (Jvm.Cond.fieldLink "ConstraintText$Pins" (15 : Nat) "ConstraintText$Pins" "lengths" "[I") ∈ gtb := tc_1 179 (by decide +kernel) rfl
theorem tw_253 : (Jvm.Cond.laysFinal "ConstraintText$Pins" "ConstraintText$Pins" "units" "[C") ∈ gtb := tc_1 180 (by decide +kernel) rfl
theorem tw_255 : (Jvm.Cond.laysFinal "ConstraintText$Pins" "ConstraintText$Pins" "lengths" "[I") ∈ gtb := tc_1 182 (by decide +kernel) rfl
theorem tw_257 : (Jvm.Cond.superclass "ConstraintText$Pins" "java/lang/Object") ∈ gtb := tc_1 184 (by decide +kernel) rfl
theorem tw_258 : (Jvm.Cond.classLink "ConstraintText" (28 : Nat) "ConstraintText$Sheet") ∈ gtb := tc_1 185 (by decide +kernel) rfl
theorem tw_260 : (Jvm.Cond.fieldLink "ConstraintText" (20 : Nat) "ConstraintText" "tape" "LConstraintText$Tape;") ∈ gtb := tc_1 187 (by decide +kernel) rfl
theorem tw_261 : (Jvm.Cond.fieldLink "ConstraintText" (24 : Nat) "ConstraintText" "pins" "LConstraintText$Pins;") ∈ gtb := tc_1 188 (by decide +kernel) rfl
theorem tw_262 : (Jvm.Cond.fieldLink "ConstraintText" (12 : Nat) "ConstraintText" "reader" "LConstraintText$Reader;") ∈ gtb := tc_1 189 (by decide +kernel) rfl
theorem tw_263 : (Jvm.Cond.fieldLink "ConstraintText" (31 : Nat) "ConstraintText" "sheet" "LConstraintText$Sheet;") ∈ gtb := tc_1 190 (by decide +kernel) rfl
theorem tw_264 : (Jvm.Cond.laysFinal "ConstraintText" "ConstraintText" "tape" "LConstraintText$Tape;") ∈ gtb := tc_1 191 (by decide +kernel) rfl
theorem tw_266 : (Jvm.Cond.laysFinal "ConstraintText" "ConstraintText" "pins" "LConstraintText$Pins;") ∈ gtb := tc_1 193 (by decide +kernel) rfl
theorem tw_268 : (Jvm.Cond.laysFinal "ConstraintText" "ConstraintText" "reader" "LConstraintText$Reader;") ∈ gtb := tc_1 195 (by decide +kernel) rfl
theorem tw_270 : (Jvm.Cond.lays "ConstraintText" "ConstraintText" "sheet" "LConstraintText$Sheet;") ∈ gtb := tc_1 197 (by decide +kernel) rfl
theorem tw_272 : (Jvm.Cond.superclass "ConstraintText" "java/lang/Object") ∈ gtb := tc_1 199 (by decide +kernel) rfl
theorem tw_273 : (Jvm.Cond.methodLink "ConstraintTextLaw" (53 : Nat) ({ cls := "ConstraintText", name := "unit", desc := "(I)Z" } : Jvm.MethodName)) ∈ gtb := tc_1 200 (by decide +kernel) rfl
theorem tw_274 : (Jvm.Cond.instanceMethod ({ cls := "ConstraintText", name := "unit", desc := "(I)Z" } : Jvm.MethodName)) ∈ gtb := tc_1 201 (by decide +kernel) rfl
theorem tw_275 : (Jvm.Cond.selects "ConstraintText" ({ cls := "ConstraintText", name := "unit", desc := "(I)Z" } : Jvm.MethodName) ({ cls := "ConstraintText", name := "unit", desc := "(I)Z" } : Jvm.MethodName)) ∈ gtb := tc_1 202 (by decide +kernel) rfl
theorem tw_276 : (Jvm.Cond.code ({ cls := "ConstraintText", name := "unit", desc := "(I)Z" } : Jvm.MethodName) prog_1_method_2_code (2 : Nat) (Option.some Jvm.ClassFile.FieldType.boolean)) ∈ gtb := tc_1 203 (by decide +kernel) rfl
theorem tw_277 : (Jvm.Cond.methodLink "ConstraintText" (35 : Nat) ({ cls := "ConstraintText$Tape", name := "takes", desc := "(I)Z" } : Jvm.MethodName)) ∈ gtb := tc_1 204 (by decide +kernel) rfl
theorem tw_278 : (Jvm.Cond.static ({ cls := "ConstraintText$Tape", name := "takes", desc := "(I)Z" } : Jvm.MethodName)) ∈ gtb := tc_1 205 (by decide +kernel) rfl
theorem tw_279 : (Jvm.Cond.code ({ cls := "ConstraintText$Tape", name := "takes", desc := "(I)Z" } : Jvm.MethodName) prog_6_method_2_code (1 : Nat) (Option.some Jvm.ClassFile.FieldType.boolean)) ∈ gtb := tc_1 206 (by decide +kernel) rfl
theorem tw_280 : (Jvm.Cond.methodLink "ConstraintText" (41 : Nat) ({ cls := "ConstraintText$Tape", name := "room", desc := "()I" } : Jvm.MethodName)) ∈ gtb := tc_1 207 (by decide +kernel) rfl
theorem tw_281 : (Jvm.Cond.instanceMethod ({ cls := "ConstraintText$Tape", name := "room", desc := "()I" } : Jvm.MethodName)) ∈ gtb := tc_1 208 (by decide +kernel) rfl
theorem tw_282 : (Jvm.Cond.selects "ConstraintText$Tape" ({ cls := "ConstraintText$Tape", name := "room", desc := "()I" } : Jvm.MethodName) ({ cls := "ConstraintText$Tape", name := "room", desc := "()I" } : Jvm.MethodName)) ∈ gtb := tc_1 209 (by decide +kernel) rfl
theorem tw_283 : (Jvm.Cond.code ({ cls := "ConstraintText$Tape", name := "room", desc := "()I" } : Jvm.MethodName) prog_6_method_3_code (1 : Nat) (Option.some Jvm.ClassFile.FieldType.int)) ∈ gtb := tc_1 210 (by decide +kernel) rfl
theorem tw_284 : (Jvm.Cond.methodLink "ConstraintText" (45 : Nat) ({ cls := "ConstraintText$Tape", name := "append", desc := "(I)V" } : Jvm.MethodName)) ∈ gtb := tc_1 211 (by decide +kernel) rfl
theorem tw_285 : (Jvm.Cond.instanceMethod ({ cls := "ConstraintText$Tape", name := "append", desc := "(I)V" } : Jvm.MethodName)) ∈ gtb := tc_1 212 (by decide +kernel) rfl
theorem tw_286 : (Jvm.Cond.selects "ConstraintText$Tape" ({ cls := "ConstraintText$Tape", name := "append", desc := "(I)V" } : Jvm.MethodName) ({ cls := "ConstraintText$Tape", name := "append", desc := "(I)V" } : Jvm.MethodName)) ∈ gtb := tc_1 213 (by decide +kernel) rfl
theorem tw_287 : (Jvm.Cond.code ({ cls := "ConstraintText$Tape", name := "append", desc := "(I)V" } : Jvm.MethodName) prog_6_method_4_code (2 : Nat) (Option.none : Option Jvm.ClassFile.FieldType)) ∈ gtb := tc_1 214 (by decide +kernel) rfl
theorem tw_288 : (Jvm.Cond.methodLink "ConstraintTextLaw" (58 : Nat) ({ cls := "ConstraintText", name := "units", desc := "(I)Z" } : Jvm.MethodName)) ∈ gtb := tc_1 215 (by decide +kernel) rfl
theorem tw_289 : (Jvm.Cond.instanceMethod ({ cls := "ConstraintText", name := "units", desc := "(I)Z" } : Jvm.MethodName)) ∈ gtb := tc_1 216 (by decide +kernel) rfl
theorem tw_290 : (Jvm.Cond.selects "ConstraintText" ({ cls := "ConstraintText", name := "units", desc := "(I)Z" } : Jvm.MethodName) ({ cls := "ConstraintText", name := "units", desc := "(I)Z" } : Jvm.MethodName)) ∈ gtb := tc_1 217 (by decide +kernel) rfl
theorem tw_291 : (Jvm.Cond.code ({ cls := "ConstraintText", name := "units", desc := "(I)Z" } : Jvm.MethodName) prog_1_method_3_code (5 : Nat) (Option.some Jvm.ClassFile.FieldType.boolean)) ∈ gtb := tc_1 218 (by decide +kernel) rfl
theorem tw_292 : (Jvm.Cond.methodLink "ConstraintTextLaw" (72 : Nat) ({ cls := "ConstraintText", name := "read", desc := "()I" } : Jvm.MethodName)) ∈ gtb := tc_1 219 (by decide +kernel) rfl
theorem tw_293 : (Jvm.Cond.instanceMethod ({ cls := "ConstraintText", name := "read", desc := "()I" } : Jvm.MethodName)) ∈ gtb := tc_1 220 (by decide +kernel) rfl
theorem tw_294 : (Jvm.Cond.selects "ConstraintText" ({ cls := "ConstraintText", name := "read", desc := "()I" } : Jvm.MethodName) ({ cls := "ConstraintText", name := "read", desc := "()I" } : Jvm.MethodName)) ∈ gtb := tc_1 221 (by decide +kernel) rfl
theorem tw_295 : (Jvm.Cond.code ({ cls := "ConstraintText", name := "read", desc := "()I" } : Jvm.MethodName) prog_1_method_5_code (3 : Nat) (Option.some Jvm.ClassFile.FieldType.int)) ∈ gtb := tc_1 222 (by decide +kernel) rfl
theorem tw_296 : (Jvm.Cond.methodLink "ConstraintText" (70 : Nat) ({ cls := "ConstraintText$Reader", name := "faultOfTape", desc := "()I" } : Jvm.MethodName)) ∈ gtb := tc_1 223 (by decide +kernel) rfl
theorem tw_297 : (Jvm.Cond.instanceMethod ({ cls := "ConstraintText$Reader", name := "faultOfTape", desc := "()I" } : Jvm.MethodName)) ∈ gtb := tc_1 224 (by decide +kernel) rfl
theorem tw_298 : (Jvm.Cond.selects "ConstraintText$Reader" ({ cls := "ConstraintText$Reader", name := "faultOfTape", desc := "()I" } : Jvm.MethodName) ({ cls := "ConstraintText$Reader", name := "faultOfTape", desc := "()I" } : Jvm.MethodName)) ∈ gtb := tc_1 225 (by decide +kernel) rfl
theorem tw_299 : (Jvm.Cond.code ({ cls := "ConstraintText$Reader", name := "faultOfTape", desc := "()I" } : Jvm.MethodName) prog_4_method_3_code (2 : Nat) (Option.some Jvm.ClassFile.FieldType.int)) ∈ gtb := tc_1 226 (by decide +kernel) rfl
theorem tw_300 : (Jvm.Cond.methodLink "ConstraintText$Reader" (45 : Nat) ({ cls := "ConstraintText$Sheet", name := "wipe", desc := "()V" } : Jvm.MethodName)) ∈ gtb := tc_1 227 (by decide +kernel) rfl
theorem tw_301 : (Jvm.Cond.instanceMethod ({ cls := "ConstraintText$Sheet", name := "wipe", desc := "()V" } : Jvm.MethodName)) ∈ gtb := tc_1 228 (by decide +kernel) rfl
theorem tw_302 : (Jvm.Cond.selects "ConstraintText$Sheet" ({ cls := "ConstraintText$Sheet", name := "wipe", desc := "()V" } : Jvm.MethodName) ({ cls := "ConstraintText$Sheet", name := "wipe", desc := "()V" } : Jvm.MethodName)) ∈ gtb := tc_1 229 (by decide +kernel) rfl
theorem tw_303 : (Jvm.Cond.code ({ cls := "ConstraintText$Sheet", name := "wipe", desc := "()V" } : Jvm.MethodName) prog_5_method_2_code (1 : Nat) (Option.none : Option Jvm.ClassFile.FieldType)) ∈ gtb := tc_1 230 (by decide +kernel) rfl
theorem tw_304 : (Jvm.Cond.methodLink "ConstraintText$Sheet" (49 : Nat) ({ cls := "ConstraintText$ClockTable", name := "wipe", desc := "()V" } : Jvm.MethodName)) ∈ gtb := tc_1 231 (by decide +kernel) rfl
theorem tw_305 : (Jvm.Cond.instanceMethod ({ cls := "ConstraintText$ClockTable", name := "wipe", desc := "()V" } : Jvm.MethodName)) ∈ gtb := tc_1 232 (by decide +kernel) rfl
theorem tw_306 : (Jvm.Cond.selects "ConstraintText$ClockTable" ({ cls := "ConstraintText$ClockTable", name := "wipe", desc := "()V" } : Jvm.MethodName) ({ cls := "ConstraintText$ClockTable", name := "wipe", desc := "()V" } : Jvm.MethodName)) ∈ gtb := tc_1 233 (by decide +kernel) rfl
theorem tw_307 : (Jvm.Cond.code ({ cls := "ConstraintText$ClockTable", name := "wipe", desc := "()V" } : Jvm.MethodName) prog_2_method_3_code (1 : Nat) (Option.none : Option Jvm.ClassFile.FieldType)) ∈ gtb := tc_1 234 (by decide +kernel) rfl
theorem tw_308 : (Jvm.Cond.methodLink "ConstraintText$Reader" (48 : Nat) ({ cls := "java/util/Arrays", name := "fill", desc := "([II)V" } : Jvm.MethodName)) ∈ gtb := tc_1 235 (by decide +kernel) rfl
theorem tw_309 : (Jvm.Cond.static ({ cls := "java/util/Arrays", name := "fill", desc := "([II)V" } : Jvm.MethodName)) ∈ gtb := tc_1 236 (by decide +kernel) rfl
theorem tw_310 : (Jvm.Cond.code ({ cls := "java/util/Arrays", name := "fill", desc := "([II)V" } : Jvm.MethodName) prog_18_method_103_code (4 : Nat) (Option.none : Option Jvm.ClassFile.FieldType)) ∈ gtb := tc_1 237 (by decide +kernel) rfl
theorem tw_311 : (Jvm.Cond.methodLink "ConstraintText$Reader" (54 : Nat) ({ cls := "ConstraintText$Reader", name := "takeWord", desc := "()V" } : Jvm.MethodName)) ∈ gtb := tc_1 238 (by decide +kernel) rfl
theorem tw_313 : (Jvm.Cond.instanceMethod ({ cls := "ConstraintText$Reader", name := "takeWord", desc := "()V" } : Jvm.MethodName)) ∈ gtb := tc_2 0 (by decide +kernel) rfl
theorem tw_314 : (Jvm.Cond.code ({ cls := "ConstraintText$Reader", name := "takeWord", desc := "()V" } : Jvm.MethodName) prog_4_method_5_code (3 : Nat) (Option.none : Option Jvm.ClassFile.FieldType)) ∈ gtb := tc_2 1 (by decide +kernel) rfl
theorem tw_315 : (Jvm.Cond.methodLink "ConstraintText$Reader" (112 : Nat) ({ cls := "ConstraintText$Tape", name := "at", desc := "(I)C" } : Jvm.MethodName)) ∈ gtb := tc_2 2 (by decide +kernel) rfl
theorem tw_316 : (Jvm.Cond.instanceMethod ({ cls := "ConstraintText$Tape", name := "at", desc := "(I)C" } : Jvm.MethodName)) ∈ gtb := tc_2 3 (by decide +kernel) rfl
theorem tw_317 : (Jvm.Cond.selects "ConstraintText$Tape" ({ cls := "ConstraintText$Tape", name := "at", desc := "(I)C" } : Jvm.MethodName) ({ cls := "ConstraintText$Tape", name := "at", desc := "(I)C" } : Jvm.MethodName)) ∈ gtb := tc_2 4 (by decide +kernel) rfl
theorem tw_318 : (Jvm.Cond.code ({ cls := "ConstraintText$Tape", name := "at", desc := "(I)C" } : Jvm.MethodName) prog_6_method_6_code (2 : Nat) (Option.some Jvm.ClassFile.FieldType.char)) ∈ gtb := tc_2 5 (by decide +kernel) rfl
theorem tw_320 : (Jvm.Cond.static ({ cls := "ConstraintText", name := "isBlank", desc := "(I)Z" } : Jvm.MethodName)) ∈ gtb := tc_2 7 (by decide +kernel) rfl
theorem tw_321 : (Jvm.Cond.code ({ cls := "ConstraintText", name := "isBlank", desc := "(I)Z" } : Jvm.MethodName) prog_1_method_20_code (1 : Nat) (Option.some Jvm.ClassFile.FieldType.boolean)) ∈ gtb := tc_2 8 (by decide +kernel) rfl
theorem tw_322 : (Jvm.Cond.methodLink "ConstraintText$Reader" (60 : Nat) ({ cls := "ConstraintText$Reader", name := "takeRow", desc := "()Z" } : Jvm.MethodName)) ∈ gtb := tc_2 9 (by decide +kernel) rfl
theorem tw_324 : (Jvm.Cond.instanceMethod ({ cls := "ConstraintText$Reader", name := "takeRow", desc := "()Z" } : Jvm.MethodName)) ∈ gtb := tc_2 11 (by decide +kernel) rfl
theorem tw_325 : (Jvm.Cond.code ({ cls := "ConstraintText$Reader", name := "takeRow", desc := "()Z" } : Jvm.MethodName) prog_4_method_4_code (3 : Nat) (Option.some Jvm.ClassFile.FieldType.boolean)) ∈ gtb := tc_2 12 (by decide +kernel) rfl
theorem tw_326 : (Jvm.Cond.methodLink "ConstraintText$Reader" (73 : Nat) ({ cls := "ConstraintText$Reader", name := "sortInHand", desc := "()I" } : Jvm.MethodName)) ∈ gtb := tc_2 13 (by decide +kernel) rfl
theorem tw_328 : (Jvm.Cond.instanceMethod ({ cls := "ConstraintText$Reader", name := "sortInHand", desc := "()I" } : Jvm.MethodName)) ∈ gtb := tc_2 15 (by decide +kernel) rfl
theorem tw_329 : (Jvm.Cond.code ({ cls := "ConstraintText$Reader", name := "sortInHand", desc := "()I" } : Jvm.MethodName) prog_4_method_17_code (2 : Nat) (Option.some Jvm.ClassFile.FieldType.int)) ∈ gtb := tc_2 16 (by decide +kernel) rfl
theorem tw_331 : (Jvm.Cond.static ({ cls := "ConstraintText", name := "keyword", desc := "(I)Ljava/lang/String;" } : Jvm.MethodName)) ∈ gtb := tc_2 18 (by decide +kernel) rfl
theorem tw_332 : (Jvm.Cond.code ({ cls := "ConstraintText", name := "keyword", desc := "(I)Ljava/lang/String;" } : Jvm.MethodName) prog_1_method_22_code (1 : Nat) (Option.some (Jvm.ClassFile.FieldType.object "java/lang/String"))) ∈ gtb := tc_2 19 (by decide +kernel) rfl
theorem tw_343 : (Jvm.Cond.methodLink "ConstraintText$Reader" (185 : Nat) ({ cls := "ConstraintText$Reader", name := "isInHand", desc := "(Ljava/lang/String;)Z" } : Jvm.MethodName)) ∈ gtb := tc_2 30 (by decide +kernel) rfl
theorem tw_345 : (Jvm.Cond.instanceMethod ({ cls := "ConstraintText$Reader", name := "isInHand", desc := "(Ljava/lang/String;)Z" } : Jvm.MethodName)) ∈ gtb := tc_2 32 (by decide +kernel) rfl
theorem tw_346 : (Jvm.Cond.code ({ cls := "ConstraintText$Reader", name := "isInHand", desc := "(Ljava/lang/String;)Z" } : Jvm.MethodName) prog_4_method_18_code (3 : Nat) (Option.some Jvm.ClassFile.FieldType.boolean)) ∈ gtb := tc_2 33 (by decide +kernel) rfl
theorem tw_347 : (Jvm.Cond.methodLink "ConstraintText$Reader" (189 : Nat) ({ cls := "java/lang/String", name := "length", desc := "()I" } : Jvm.MethodName)) ∈ gtb := tc_2 34 (by decide +kernel) rfl
theorem tw_348 : (Jvm.Cond.instanceMethod ({ cls := "java/lang/String", name := "length", desc := "()I" } : Jvm.MethodName)) ∈ gtb := tc_2 35 (by decide +kernel) rfl
theorem tw_349 : (Jvm.Cond.selects "java/lang/String" ({ cls := "java/lang/String", name := "length", desc := "()I" } : Jvm.MethodName) ({ cls := "java/lang/String", name := "length", desc := "()I" } : Jvm.MethodName)) ∈ gtb := tc_2 36 (by decide +kernel) rfl
theorem tw_350 : (Jvm.Cond.code ({ cls := "java/lang/String", name := "length", desc := "()I" } : Jvm.MethodName) prog_14_method_54_code (1 : Nat) (Option.some Jvm.ClassFile.FieldType.int)) ∈ gtb := tc_2 37 (by decide +kernel) rfl
theorem tw_351 : (Jvm.Cond.methodLink "java/lang/String" (335 : Nat) ({ cls := "java/lang/String", name := "coder", desc := "()B" } : Jvm.MethodName)) ∈ gtb := tc_2 38 (by decide +kernel) rfl
theorem tw_352 : (Jvm.Cond.instanceMethod ({ cls := "java/lang/String", name := "coder", desc := "()B" } : Jvm.MethodName)) ∈ gtb := tc_2 39 (by decide +kernel) rfl
theorem tw_353 : (Jvm.Cond.selects "java/lang/String" ({ cls := "java/lang/String", name := "coder", desc := "()B" } : Jvm.MethodName) ({ cls := "java/lang/String", name := "coder", desc := "()B" } : Jvm.MethodName)) ∈ gtb := tc_2 40 (by decide +kernel) rfl
theorem tw_354 : (Jvm.Cond.code ({ cls := "java/lang/String", name := "coder", desc := "()B" } : Jvm.MethodName) prog_14_method_152_code (1 : Nat) (Option.some Jvm.ClassFile.FieldType.byte)) ∈ gtb := tc_2 41 (by decide +kernel) rfl
theorem tw_355 : (Jvm.Cond.fieldLink "java/lang/String" (38 : Nat) "java/lang/String" "COMPACT_STRINGS" "Z") ∈ gtb := tc_2 42 (by decide +kernel) rfl
theorem tw_357 : (Jvm.Cond.methodLink "ConstraintText$Reader" (193 : Nat) ({ cls := "java/lang/String", name := "charAt", desc := "(I)C" } : Jvm.MethodName)) ∈ gtb := tc_2 44 (by decide +kernel) rfl
theorem tw_358 : (Jvm.Cond.instanceMethod ({ cls := "java/lang/String", name := "charAt", desc := "(I)C" } : Jvm.MethodName)) ∈ gtb := tc_2 45 (by decide +kernel) rfl
theorem tw_359 : (Jvm.Cond.selects "java/lang/String" ({ cls := "java/lang/String", name := "charAt", desc := "(I)C" } : Jvm.MethodName) ({ cls := "java/lang/String", name := "charAt", desc := "(I)C" } : Jvm.MethodName)) ∈ gtb := tc_2 46 (by decide +kernel) rfl
theorem tw_360 : (Jvm.Cond.code ({ cls := "java/lang/String", name := "charAt", desc := "(I)C" } : Jvm.MethodName) prog_14_method_56_code (2 : Nat) (Option.some Jvm.ClassFile.FieldType.char)) ∈ gtb := tc_2 47 (by decide +kernel) rfl
theorem tw_361 : (Jvm.Cond.methodLink "java/lang/String" (492 : Nat) ({ cls := "java/lang/String", name := "isLatin1", desc := "()Z" } : Jvm.MethodName)) ∈ gtb := tc_2 48 (by decide +kernel) rfl
theorem tw_362 : (Jvm.Cond.instanceMethod ({ cls := "java/lang/String", name := "isLatin1", desc := "()Z" } : Jvm.MethodName)) ∈ gtb := tc_2 49 (by decide +kernel) rfl
theorem tw_363 : (Jvm.Cond.selects "java/lang/String" ({ cls := "java/lang/String", name := "isLatin1", desc := "()Z" } : Jvm.MethodName) ({ cls := "java/lang/String", name := "isLatin1", desc := "()Z" } : Jvm.MethodName)) ∈ gtb := tc_2 50 (by decide +kernel) rfl
theorem tw_364 : (Jvm.Cond.code ({ cls := "java/lang/String", name := "isLatin1", desc := "()Z" } : Jvm.MethodName) prog_14_method_154_code (1 : Nat) (Option.some Jvm.ClassFile.FieldType.boolean)) ∈ gtb := tc_2 51 (by decide +kernel) rfl
theorem tw_365 : (Jvm.Cond.methodLink "java/lang/String" (495 : Nat) ({ cls := "java/lang/StringLatin1", name := "charAt", desc := "([BI)C" } : Jvm.MethodName)) ∈ gtb := tc_2 52 (by decide +kernel) rfl
theorem tw_366 : (Jvm.Cond.static ({ cls := "java/lang/StringLatin1", name := "charAt", desc := "([BI)C" } : Jvm.MethodName)) ∈ gtb := tc_2 53 (by decide +kernel) rfl
theorem tw_367 : (Jvm.Cond.code ({ cls := "java/lang/StringLatin1", name := "charAt", desc := "([BI)C" } : Jvm.MethodName) prog_15_method_2_code (2 : Nat) (Option.some Jvm.ClassFile.FieldType.char)) ∈ gtb := tc_2 54 (by decide +kernel) rfl
theorem tw_368 : (Jvm.Cond.methodLink "java/lang/StringLatin1" (9 : Nat) ({ cls := "java/lang/String", name := "checkIndex", desc := "(II)V" } : Jvm.MethodName)) ∈ gtb := tc_2 55 (by decide +kernel) rfl
theorem tw_369 : (Jvm.Cond.static ({ cls := "java/lang/String", name := "checkIndex", desc := "(II)V" } : Jvm.MethodName)) ∈ gtb := tc_2 56 (by decide +kernel) rfl
theorem tw_370 : (Jvm.Cond.code ({ cls := "java/lang/String", name := "checkIndex", desc := "(II)V" } : Jvm.MethodName) prog_14_method_155_code (2 : Nat) (Option.none : Option Jvm.ClassFile.FieldType)) ∈ gtb := tc_2 57 (by decide +kernel) rfl
theorem tw_371 : (Jvm.Cond.fieldLink "java/lang/String" (1053 : Nat) "jdk/internal/util/Preconditions" "SIOOBE_FORMATTER" "Ljava/util/function/BiFunction;") ∈ gtb := tc_2 58 (by decide +kernel) rfl
theorem tw_373 : (Jvm.Cond.methodLink "java/lang/String" (1059 : Nat) ({ cls := "jdk/internal/util/Preconditions", name := "checkIndex", desc := "(IILjava/util/function/BiFunction;)I" } : Jvm.MethodName)) ∈ gtb := tc_2 60 (by decide +kernel) rfl
theorem tw_374 : (Jvm.Cond.static ({ cls := "jdk/internal/util/Preconditions", name := "checkIndex", desc := "(IILjava/util/function/BiFunction;)I" } : Jvm.MethodName)) ∈ gtb := tc_2 61 (by decide +kernel) rfl
theorem tw_375 : (Jvm.Cond.code ({ cls := "jdk/internal/util/Preconditions", name := "checkIndex", desc := "(IILjava/util/function/BiFunction;)I" } : Jvm.MethodName) prog_19_method_11_code (3 : Nat) (Option.some Jvm.ClassFile.FieldType.int)) ∈ gtb := tc_2 62 (by decide +kernel) rfl
theorem tw_376 : (Jvm.Cond.methodLink "java/lang/String" (498 : Nat) ({ cls := "java/lang/StringUTF16", name := "charAt", desc := "([BI)C" } : Jvm.MethodName)) ∈ gtb := tc_2 63 (by decide +kernel) rfl
theorem tw_377 : (Jvm.Cond.static ({ cls := "java/lang/StringUTF16", name := "charAt", desc := "([BI)C" } : Jvm.MethodName)) ∈ gtb := tc_2 64 (by decide +kernel) rfl
theorem tw_378 : (Jvm.Cond.code ({ cls := "java/lang/StringUTF16", name := "charAt", desc := "([BI)C" } : Jvm.MethodName) prog_16_method_83_code (2 : Nat) (Option.some Jvm.ClassFile.FieldType.char)) ∈ gtb := tc_2 65 (by decide +kernel) rfl
theorem tw_379 : (Jvm.Cond.methodLink "java/lang/StringUTF16" (67 : Nat) ({ cls := "java/lang/StringUTF16", name := "checkIndex", desc := "(I[B)V" } : Jvm.MethodName)) ∈ gtb := tc_2 66 (by decide +kernel) rfl
theorem tw_380 : (Jvm.Cond.static ({ cls := "java/lang/StringUTF16", name := "checkIndex", desc := "(I[B)V" } : Jvm.MethodName)) ∈ gtb := tc_2 67 (by decide +kernel) rfl
theorem tw_381 : (Jvm.Cond.code ({ cls := "java/lang/StringUTF16", name := "checkIndex", desc := "(I[B)V" } : Jvm.MethodName) prog_16_method_91_code (2 : Nat) (Option.none : Option Jvm.ClassFile.FieldType)) ∈ gtb := tc_2 68 (by decide +kernel) rfl
theorem tw_382 : (Jvm.Cond.methodLink "java/lang/StringUTF16" (48 : Nat) ({ cls := "java/lang/StringUTF16", name := "length", desc := "([B)I" } : Jvm.MethodName)) ∈ gtb := tc_2 69 (by decide +kernel) rfl
theorem tw_383 : (Jvm.Cond.static ({ cls := "java/lang/StringUTF16", name := "length", desc := "([B)I" } : Jvm.MethodName)) ∈ gtb := tc_2 70 (by decide +kernel) rfl
theorem tw_384 : (Jvm.Cond.code ({ cls := "java/lang/StringUTF16", name := "length", desc := "([B)I" } : Jvm.MethodName) prog_16_method_6_code (1 : Nat) (Option.some Jvm.ClassFile.FieldType.int)) ∈ gtb := tc_2 71 (by decide +kernel) rfl
theorem tw_385 : (Jvm.Cond.methodLink "java/lang/StringUTF16" (414 : Nat) ({ cls := "java/lang/String", name := "checkIndex", desc := "(II)V" } : Jvm.MethodName)) ∈ gtb := tc_2 72 (by decide +kernel) rfl
theorem tw_386 : (Jvm.Cond.methodLink "java/lang/StringUTF16" (71 : Nat) ({ cls := "java/lang/StringUTF16", name := "getChar", desc := "([BI)C" } : Jvm.MethodName)) ∈ gtb := tc_2 73 (by decide +kernel) rfl
theorem tw_387 : (Jvm.Cond.static ({ cls := "java/lang/StringUTF16", name := "getChar", desc := "([BI)C" } : Jvm.MethodName)) ∈ gtb := tc_2 74 (by decide +kernel) rfl
theorem tw_388 : (Jvm.Cond.code ({ cls := "java/lang/StringUTF16", name := "getChar", desc := "([BI)C" } : Jvm.MethodName) prog_16_method_5_code (2 : Nat) (Option.some Jvm.ClassFile.FieldType.char)) ∈ gtb := tc_2 75 (by decide +kernel) rfl
theorem tw_389 : (Jvm.Cond.fieldLink "java/lang/StringUTF16" (44 : Nat) "java/lang/StringUTF16" "$assertionsDisabled" "Z") ∈ gtb := tc_2 76 (by decide +kernel) rfl
theorem tw_391 : (Jvm.Cond.fieldLink "java/lang/StringUTF16" (59 : Nat) "java/lang/StringUTF16" "HI_BYTE_SHIFT" "I") ∈ gtb := tc_2 78 (by decide +kernel) rfl
theorem tw_393 : (Jvm.Cond.fieldLink "java/lang/StringUTF16" (63 : Nat) "java/lang/StringUTF16" "LO_BYTE_SHIFT" "I") ∈ gtb := tc_2 80 (by decide +kernel) rfl
theorem tw_395 : (Jvm.Cond.methodLink "ConstraintText$Reader" (77 : Nat) ({ cls := "ConstraintText$Sheet", name := "open", desc := "(I)V" } : Jvm.MethodName)) ∈ gtb := tc_2 82 (by decide +kernel) rfl
theorem tw_396 : (Jvm.Cond.instanceMethod ({ cls := "ConstraintText$Sheet", name := "open", desc := "(I)V" } : Jvm.MethodName)) ∈ gtb := tc_2 83 (by decide +kernel) rfl
theorem tw_397 : (Jvm.Cond.selects "ConstraintText$Sheet" ({ cls := "ConstraintText$Sheet", name := "open", desc := "(I)V" } : Jvm.MethodName) ({ cls := "ConstraintText$Sheet", name := "open", desc := "(I)V" } : Jvm.MethodName)) ∈ gtb := tc_2 84 (by decide +kernel) rfl
theorem tw_398 : (Jvm.Cond.code ({ cls := "ConstraintText$Sheet", name := "open", desc := "(I)V" } : Jvm.MethodName) prog_5_method_3_code (3 : Nat) (Option.none : Option Jvm.ClassFile.FieldType)) ∈ gtb := tc_2 85 (by decide +kernel) rfl
theorem tw_399 : (Jvm.Cond.methodLink "ConstraintText$Reader" (81 : Nat) ({ cls := "ConstraintText$Reader", name := "printWord", desc := "()V" } : Jvm.MethodName)) ∈ gtb := tc_2 86 (by decide +kernel) rfl
theorem tw_401 : (Jvm.Cond.instanceMethod ({ cls := "ConstraintText$Reader", name := "printWord", desc := "()V" } : Jvm.MethodName)) ∈ gtb := tc_2 88 (by decide +kernel) rfl
theorem tw_402 : (Jvm.Cond.code ({ cls := "ConstraintText$Reader", name := "printWord", desc := "()V" } : Jvm.MethodName) prog_4_method_16_code (2 : Nat) (Option.none : Option Jvm.ClassFile.FieldType)) ∈ gtb := tc_2 89 (by decide +kernel) rfl
theorem tw_403 : (Jvm.Cond.methodLink "ConstraintText$Reader" (178 : Nat) ({ cls := "ConstraintText$Sheet", name := "printGap", desc := "()V" } : Jvm.MethodName)) ∈ gtb := tc_2 90 (by decide +kernel) rfl
theorem tw_404 : (Jvm.Cond.instanceMethod ({ cls := "ConstraintText$Sheet", name := "printGap", desc := "()V" } : Jvm.MethodName)) ∈ gtb := tc_2 91 (by decide +kernel) rfl
theorem tw_405 : (Jvm.Cond.selects "ConstraintText$Sheet" ({ cls := "ConstraintText$Sheet", name := "printGap", desc := "()V" } : Jvm.MethodName) ({ cls := "ConstraintText$Sheet", name := "printGap", desc := "()V" } : Jvm.MethodName)) ∈ gtb := tc_2 92 (by decide +kernel) rfl
theorem tw_406 : (Jvm.Cond.code ({ cls := "ConstraintText$Sheet", name := "printGap", desc := "()V" } : Jvm.MethodName) prog_5_method_9_code (1 : Nat) (Option.none : Option Jvm.ClassFile.FieldType)) ∈ gtb := tc_2 93 (by decide +kernel) rfl
theorem tw_407 : (Jvm.Cond.methodLink "ConstraintText$Sheet" (60 : Nat) ({ cls := "ConstraintText$Sheet", name := "printedAt", desc := "(I)I" } : Jvm.MethodName)) ∈ gtb := tc_2 94 (by decide +kernel) rfl
theorem tw_408 : (Jvm.Cond.instanceMethod ({ cls := "ConstraintText$Sheet", name := "printedAt", desc := "(I)I" } : Jvm.MethodName)) ∈ gtb := tc_2 95 (by decide +kernel) rfl
theorem tw_409 : (Jvm.Cond.selects "ConstraintText$Sheet" ({ cls := "ConstraintText$Sheet", name := "printedAt", desc := "(I)I" } : Jvm.MethodName) ({ cls := "ConstraintText$Sheet", name := "printedAt", desc := "(I)I" } : Jvm.MethodName)) ∈ gtb := tc_2 96 (by decide +kernel) rfl
theorem tw_410 : (Jvm.Cond.code ({ cls := "ConstraintText$Sheet", name := "printedAt", desc := "(I)I" } : Jvm.MethodName) prog_5_method_11_code (2 : Nat) (Option.some Jvm.ClassFile.FieldType.int)) ∈ gtb := tc_2 97 (by decide +kernel) rfl
theorem tw_411 : (Jvm.Cond.methodLink "ConstraintText$Sheet" (64 : Nat) ({ cls := "ConstraintText$Sheet", name := "print", desc := "(I)V" } : Jvm.MethodName)) ∈ gtb := tc_2 98 (by decide +kernel) rfl
theorem tw_412 : (Jvm.Cond.instanceMethod ({ cls := "ConstraintText$Sheet", name := "print", desc := "(I)V" } : Jvm.MethodName)) ∈ gtb := tc_2 99 (by decide +kernel) rfl
theorem tw_413 : (Jvm.Cond.selects "ConstraintText$Sheet" ({ cls := "ConstraintText$Sheet", name := "print", desc := "(I)V" } : Jvm.MethodName) ({ cls := "ConstraintText$Sheet", name := "print", desc := "(I)V" } : Jvm.MethodName)) ∈ gtb := tc_2 100 (by decide +kernel) rfl
theorem tw_414 : (Jvm.Cond.code ({ cls := "ConstraintText$Sheet", name := "print", desc := "(I)V" } : Jvm.MethodName) prog_5_method_8_code (2 : Nat) (Option.none : Option Jvm.ClassFile.FieldType)) ∈ gtb := tc_2 101 (by decide +kernel) rfl
theorem tw_415 : (Jvm.Cond.methodLink "ConstraintText$Reader" (175 : Nat) ({ cls := "ConstraintText$Sheet", name := "print", desc := "(I)V" } : Jvm.MethodName)) ∈ gtb := tc_2 102 (by decide +kernel) rfl
theorem tw_416 : (Jvm.Cond.methodLink "ConstraintText$Reader" (84 : Nat) ({ cls := "ConstraintText$Reader", name := "takeNewClock", desc := "()Z" } : Jvm.MethodName)) ∈ gtb := tc_2 103 (by decide +kernel) rfl
theorem tw_418 : (Jvm.Cond.instanceMethod ({ cls := "ConstraintText$Reader", name := "takeNewClock", desc := "()Z" } : Jvm.MethodName)) ∈ gtb := tc_2 105 (by decide +kernel) rfl
theorem tw_419 : (Jvm.Cond.code ({ cls := "ConstraintText$Reader", name := "takeNewClock", desc := "()Z" } : Jvm.MethodName) prog_4_method_6_code (2 : Nat) (Option.some Jvm.ClassFile.FieldType.boolean)) ∈ gtb := tc_2 106 (by decide +kernel) rfl
theorem tw_420 : (Jvm.Cond.methodLink "ConstraintText$Reader" (128 : Nat) ({ cls := "ConstraintText$Reader", name := "isNameInHand", desc := "()Z" } : Jvm.MethodName)) ∈ gtb := tc_2 107 (by decide +kernel) rfl
theorem tw_422 : (Jvm.Cond.instanceMethod ({ cls := "ConstraintText$Reader", name := "isNameInHand", desc := "()Z" } : Jvm.MethodName)) ∈ gtb := tc_2 109 (by decide +kernel) rfl
theorem tw_423 : (Jvm.Cond.code ({ cls := "ConstraintText$Reader", name := "isNameInHand", desc := "()Z" } : Jvm.MethodName) prog_4_method_20_code (2 : Nat) (Option.some Jvm.ClassFile.FieldType.boolean)) ∈ gtb := tc_2 110 (by decide +kernel) rfl
theorem tw_425 : (Jvm.Cond.static ({ cls := "ConstraintText", name := "isSmallLetter", desc := "(I)Z" } : Jvm.MethodName)) ∈ gtb := tc_2 112 (by decide +kernel) rfl
theorem tw_426 : (Jvm.Cond.code ({ cls := "ConstraintText", name := "isSmallLetter", desc := "(I)Z" } : Jvm.MethodName) prog_1_method_17_code (1 : Nat) (Option.some Jvm.ClassFile.FieldType.boolean)) ∈ gtb := tc_2 113 (by decide +kernel) rfl
theorem tw_427 : (Jvm.Cond.methodLink "ConstraintText$Reader" (131 : Nat) ({ cls := "ConstraintText$Reader", name := "clockNamed", desc := "(II)I" } : Jvm.MethodName)) ∈ gtb := tc_2 114 (by decide +kernel) rfl
theorem tw_429 : (Jvm.Cond.instanceMethod ({ cls := "ConstraintText$Reader", name := "clockNamed", desc := "(II)I" } : Jvm.MethodName)) ∈ gtb := tc_2 116 (by decide +kernel) rfl
theorem tw_430 : (Jvm.Cond.code ({ cls := "ConstraintText$Reader", name := "clockNamed", desc := "(II)I" } : Jvm.MethodName) prog_4_method_23_code (4 : Nat) (Option.some Jvm.ClassFile.FieldType.int)) ∈ gtb := tc_2 117 (by decide +kernel) rfl
theorem tw_431 : (Jvm.Cond.methodLink "ConstraintText$Reader" (205 : Nat) ({ cls := "ConstraintText$Reader", name := "isSameText", desc := "(III)Z" } : Jvm.MethodName)) ∈ gtb := tc_2 118 (by decide +kernel) rfl
theorem tw_433 : (Jvm.Cond.instanceMethod ({ cls := "ConstraintText$Reader", name := "isSameText", desc := "(III)Z" } : Jvm.MethodName)) ∈ gtb := tc_2 120 (by decide +kernel) rfl
theorem tw_434 : (Jvm.Cond.code ({ cls := "ConstraintText$Reader", name := "isSameText", desc := "(III)Z" } : Jvm.MethodName) prog_4_method_24_code (5 : Nat) (Option.some Jvm.ClassFile.FieldType.boolean)) ∈ gtb := tc_2 121 (by decide +kernel) rfl
theorem tw_435 : (Jvm.Cond.methodLink "ConstraintText$Reader" (138 : Nat) ({ cls := "ConstraintText$ClockTable", name := "open", desc := "(I)V" } : Jvm.MethodName)) ∈ gtb := tc_2 122 (by decide +kernel) rfl
theorem tw_436 : (Jvm.Cond.instanceMethod ({ cls := "ConstraintText$ClockTable", name := "open", desc := "(I)V" } : Jvm.MethodName)) ∈ gtb := tc_2 123 (by decide +kernel) rfl
theorem tw_437 : (Jvm.Cond.selects "ConstraintText$ClockTable" ({ cls := "ConstraintText$ClockTable", name := "open", desc := "(I)V" } : Jvm.MethodName) ({ cls := "ConstraintText$ClockTable", name := "open", desc := "(I)V" } : Jvm.MethodName)) ∈ gtb := tc_2 124 (by decide +kernel) rfl
theorem tw_438 : (Jvm.Cond.code ({ cls := "ConstraintText$ClockTable", name := "open", desc := "(I)V" } : Jvm.MethodName) prog_2_method_4_code (2 : Nat) (Option.none : Option Jvm.ClassFile.FieldType)) ∈ gtb := tc_2 125 (by decide +kernel) rfl
theorem tw_439 : (Jvm.Cond.methodLink "ConstraintText$Reader" (87 : Nat) ({ cls := "ConstraintText$Reader", name := "takeTimes", desc := "()Z" } : Jvm.MethodName)) ∈ gtb := tc_2 126 (by decide +kernel) rfl
theorem tw_441 : (Jvm.Cond.instanceMethod ({ cls := "ConstraintText$Reader", name := "takeTimes", desc := "()Z" } : Jvm.MethodName)) ∈ gtb := tc_2 128 (by decide +kernel) rfl
theorem tw_442 : (Jvm.Cond.code ({ cls := "ConstraintText$Reader", name := "takeTimes", desc := "()Z" } : Jvm.MethodName) prog_4_method_7_code (4 : Nat) (Option.some Jvm.ClassFile.FieldType.boolean)) ∈ gtb := tc_2 129 (by decide +kernel) rfl
theorem tw_443 : (Jvm.Cond.constant "ConstraintText$Reader" (108 : Nat) (999999 : Int32)) ∈ gtb := tc_2 130 (by decide +kernel) rfl
theorem tw_444 : (Jvm.Cond.methodLink "ConstraintText$Reader" (139 : Nat) ({ cls := "ConstraintText$Reader", name := "takeWhole", desc := "(II)I" } : Jvm.MethodName)) ∈ gtb := tc_2 131 (by decide +kernel) rfl
theorem tw_446 : (Jvm.Cond.instanceMethod ({ cls := "ConstraintText$Reader", name := "takeWhole", desc := "(II)I" } : Jvm.MethodName)) ∈ gtb := tc_2 133 (by decide +kernel) rfl
theorem tw_447 : (Jvm.Cond.code ({ cls := "ConstraintText$Reader", name := "takeWhole", desc := "(II)I" } : Jvm.MethodName) prog_4_method_11_code (4 : Nat) (Option.some Jvm.ClassFile.FieldType.int)) ∈ gtb := tc_2 134 (by decide +kernel) rfl
theorem tw_448 : (Jvm.Cond.methodLink "ConstraintText$Reader" (153 : Nat) ({ cls := "ConstraintText$Reader", name := "wholeInHand", desc := "()I" } : Jvm.MethodName)) ∈ gtb := tc_2 135 (by decide +kernel) rfl
theorem tw_450 : (Jvm.Cond.instanceMethod ({ cls := "ConstraintText$Reader", name := "wholeInHand", desc := "()I" } : Jvm.MethodName)) ∈ gtb := tc_2 137 (by decide +kernel) rfl
theorem tw_451 : (Jvm.Cond.code ({ cls := "ConstraintText$Reader", name := "wholeInHand", desc := "()I" } : Jvm.MethodName) prog_4_method_22_code (4 : Nat) (Option.some Jvm.ClassFile.FieldType.int)) ∈ gtb := tc_2 138 (by decide +kernel) rfl
theorem tw_453 : (Jvm.Cond.static ({ cls := "ConstraintText", name := "isDigit", desc := "(I)Z" } : Jvm.MethodName)) ∈ gtb := tc_2 140 (by decide +kernel) rfl
theorem tw_454 : (Jvm.Cond.code ({ cls := "ConstraintText", name := "isDigit", desc := "(I)Z" } : Jvm.MethodName) prog_1_method_18_code (1 : Nat) (Option.some Jvm.ClassFile.FieldType.boolean)) ∈ gtb := tc_2 141 (by decide +kernel) rfl
theorem tw_455 : (Jvm.Cond.methodLink "ConstraintText$Reader" (156 : Nat) ({ cls := "ConstraintText$Sheet", name := "printWhole", desc := "(I)V" } : Jvm.MethodName)) ∈ gtb := tc_2 142 (by decide +kernel) rfl
theorem tw_456 : (Jvm.Cond.instanceMethod ({ cls := "ConstraintText$Sheet", name := "printWhole", desc := "(I)V" } : Jvm.MethodName)) ∈ gtb := tc_2 143 (by decide +kernel) rfl
theorem tw_457 : (Jvm.Cond.selects "ConstraintText$Sheet" ({ cls := "ConstraintText$Sheet", name := "printWhole", desc := "(I)V" } : Jvm.MethodName) ({ cls := "ConstraintText$Sheet", name := "printWhole", desc := "(I)V" } : Jvm.MethodName)) ∈ gtb := tc_2 144 (by decide +kernel) rfl
theorem tw_458 : (Jvm.Cond.code ({ cls := "ConstraintText$Sheet", name := "printWhole", desc := "(I)V" } : Jvm.MethodName) prog_5_method_10_code (3 : Nat) (Option.none : Option Jvm.ClassFile.FieldType)) ∈ gtb := tc_2 145 (by decide +kernel) rfl
theorem tw_459 : (Jvm.Cond.methodLink "ConstraintText$Sheet" (68 : Nat) ({ cls := "ConstraintText$Sheet", name := "printGap", desc := "()V" } : Jvm.MethodName)) ∈ gtb := tc_2 146 (by decide +kernel) rfl
theorem tw_460 : (Jvm.Cond.constant "ConstraintText$Sheet" (71 : Nat) (100000 : Int32)) ∈ gtb := tc_2 147 (by decide +kernel) rfl
theorem tw_461 : (Jvm.Cond.methodLink "ConstraintText$Reader" (142 : Nat) ({ cls := "ConstraintText$ClockTable", name := "setTimes", desc := "(III)V" } : Jvm.MethodName)) ∈ gtb := tc_2 148 (by decide +kernel) rfl
theorem tw_462 : (Jvm.Cond.instanceMethod ({ cls := "ConstraintText$ClockTable", name := "setTimes", desc := "(III)V" } : Jvm.MethodName)) ∈ gtb := tc_2 149 (by decide +kernel) rfl
theorem tw_463 : (Jvm.Cond.selects "ConstraintText$ClockTable" ({ cls := "ConstraintText$ClockTable", name := "setTimes", desc := "(III)V" } : Jvm.MethodName) ({ cls := "ConstraintText$ClockTable", name := "setTimes", desc := "(III)V" } : Jvm.MethodName)) ∈ gtb := tc_2 150 (by decide +kernel) rfl
theorem tw_464 : (Jvm.Cond.code ({ cls := "ConstraintText$ClockTable", name := "setTimes", desc := "(III)V" } : Jvm.MethodName) prog_2_method_5_code (5 : Nat) (Option.none : Option Jvm.ClassFile.FieldType)) ∈ gtb := tc_2 151 (by decide +kernel) rfl
theorem tw_465 : (Jvm.Cond.methodLink "ConstraintText$ClockTable" (51 : Nat) ({ cls := "ConstraintText$ClockTable", name := "has", desc := "(I)Z" } : Jvm.MethodName)) ∈ gtb := tc_2 152 (by decide +kernel) rfl
theorem tw_466 : (Jvm.Cond.instanceMethod ({ cls := "ConstraintText$ClockTable", name := "has", desc := "(I)Z" } : Jvm.MethodName)) ∈ gtb := tc_2 153 (by decide +kernel) rfl
theorem tw_467 : (Jvm.Cond.selects "ConstraintText$ClockTable" ({ cls := "ConstraintText$ClockTable", name := "has", desc := "(I)Z" } : Jvm.MethodName) ({ cls := "ConstraintText$ClockTable", name := "has", desc := "(I)Z" } : Jvm.MethodName)) ∈ gtb := tc_2 154 (by decide +kernel) rfl
theorem tw_468 : (Jvm.Cond.code ({ cls := "ConstraintText$ClockTable", name := "has", desc := "(I)Z" } : Jvm.MethodName) prog_2_method_2_code (2 : Nat) (Option.some Jvm.ClassFile.FieldType.boolean)) ∈ gtb := tc_2 155 (by decide +kernel) rfl
theorem tw_469 : (Jvm.Cond.methodLink "ConstraintText$Reader" (90 : Nat) ({ cls := "ConstraintText$Reader", name := "takePattern", desc := "(I)Z" } : Jvm.MethodName)) ∈ gtb := tc_2 156 (by decide +kernel) rfl
theorem tw_471 : (Jvm.Cond.instanceMethod ({ cls := "ConstraintText$Reader", name := "takePattern", desc := "(I)Z" } : Jvm.MethodName)) ∈ gtb := tc_2 158 (by decide +kernel) rfl
theorem tw_472 : (Jvm.Cond.code ({ cls := "ConstraintText$Reader", name := "takePattern", desc := "(I)Z" } : Jvm.MethodName) prog_4_method_13_code (2 : Nat) (Option.some Jvm.ClassFile.FieldType.boolean)) ∈ gtb := tc_2 159 (by decide +kernel) rfl
theorem tw_473 : (Jvm.Cond.methodLink "ConstraintText$Reader" (162 : Nat) ({ cls := "ConstraintText$Reader", name := "keepPattern", desc := "(I)Z" } : Jvm.MethodName)) ∈ gtb := tc_2 160 (by decide +kernel) rfl
theorem tw_475 : (Jvm.Cond.instanceMethod ({ cls := "ConstraintText$Reader", name := "keepPattern", desc := "(I)Z" } : Jvm.MethodName)) ∈ gtb := tc_2 162 (by decide +kernel) rfl
theorem tw_476 : (Jvm.Cond.code ({ cls := "ConstraintText$Reader", name := "keepPattern", desc := "(I)Z" } : Jvm.MethodName) prog_4_method_14_code (2 : Nat) (Option.some Jvm.ClassFile.FieldType.boolean)) ∈ gtb := tc_2 163 (by decide +kernel) rfl
theorem tw_477 : (Jvm.Cond.methodLink "ConstraintText$Reader" (168 : Nat) ({ cls := "ConstraintText$Reader", name := "isPatternInHand", desc := "()Z" } : Jvm.MethodName)) ∈ gtb := tc_2 164 (by decide +kernel) rfl
theorem tw_479 : (Jvm.Cond.instanceMethod ({ cls := "ConstraintText$Reader", name := "isPatternInHand", desc := "()Z" } : Jvm.MethodName)) ∈ gtb := tc_2 166 (by decide +kernel) rfl
theorem tw_480 : (Jvm.Cond.code ({ cls := "ConstraintText$Reader", name := "isPatternInHand", desc := "()Z" } : Jvm.MethodName) prog_4_method_21_code (3 : Nat) (Option.some Jvm.ClassFile.FieldType.boolean)) ∈ gtb := tc_2 167 (by decide +kernel) rfl
theorem tw_482 : (Jvm.Cond.static ({ cls := "ConstraintText", name := "isNameUnit", desc := "(I)Z" } : Jvm.MethodName)) ∈ gtb := tc_2 169 (by decide +kernel) rfl
theorem tw_483 : (Jvm.Cond.code ({ cls := "ConstraintText", name := "isNameUnit", desc := "(I)Z" } : Jvm.MethodName) prog_1_method_19_code (1 : Nat) (Option.some Jvm.ClassFile.FieldType.boolean)) ∈ gtb := tc_2 170 (by decide +kernel) rfl
theorem tw_484 : (Jvm.Cond.methodLink "ConstraintText" (170 : Nat) ({ cls := "ConstraintText", name := "isSmallLetter", desc := "(I)Z" } : Jvm.MethodName)) ∈ gtb := tc_2 171 (by decide +kernel) rfl
theorem tw_485 : (Jvm.Cond.methodLink "ConstraintText" (173 : Nat) ({ cls := "ConstraintText", name := "isDigit", desc := "(I)Z" } : Jvm.MethodName)) ∈ gtb := tc_2 172 (by decide +kernel) rfl
theorem tw_486 : (Jvm.Cond.methodLink "ConstraintText$Reader" (171 : Nat) ({ cls := "ConstraintText$Sheet", name := "setPattern", desc := "(II)V" } : Jvm.MethodName)) ∈ gtb := tc_2 173 (by decide +kernel) rfl
theorem tw_487 : (Jvm.Cond.instanceMethod ({ cls := "ConstraintText$Sheet", name := "setPattern", desc := "(II)V" } : Jvm.MethodName)) ∈ gtb := tc_2 174 (by decide +kernel) rfl
theorem tw_488 : (Jvm.Cond.selects "ConstraintText$Sheet" ({ cls := "ConstraintText$Sheet", name := "setPattern", desc := "(II)V" } : Jvm.MethodName) ({ cls := "ConstraintText$Sheet", name := "setPattern", desc := "(II)V" } : Jvm.MethodName)) ∈ gtb := tc_2 175 (by decide +kernel) rfl
theorem tw_489 : (Jvm.Cond.code ({ cls := "ConstraintText$Sheet", name := "setPattern", desc := "(II)V" } : Jvm.MethodName) prog_5_method_5_code (4 : Nat) (Option.none : Option Jvm.ClassFile.FieldType)) ∈ gtb := tc_2 176 (by decide +kernel) rfl
theorem tw_490 : (Jvm.Cond.methodLink "ConstraintText$Sheet" (52 : Nat) ({ cls := "ConstraintText$Sheet", name := "patternOf", desc := "(II)I" } : Jvm.MethodName)) ∈ gtb := tc_2 177 (by decide +kernel) rfl
theorem tw_492 : (Jvm.Cond.instanceMethod ({ cls := "ConstraintText$Sheet", name := "patternOf", desc := "(II)I" } : Jvm.MethodName)) ∈ gtb := tc_2 179 (by decide +kernel) rfl
theorem tw_493 : (Jvm.Cond.code ({ cls := "ConstraintText$Sheet", name := "patternOf", desc := "(II)I" } : Jvm.MethodName) prog_5_method_6_code (4 : Nat) (Option.some Jvm.ClassFile.FieldType.int)) ∈ gtb := tc_2 180 (by decide +kernel) rfl
theorem tw_494 : (Jvm.Cond.methodLink "ConstraintText$Reader" (94 : Nat) ({ cls := "ConstraintText$Reader", name := "takeLink", desc := "(I)Z" } : Jvm.MethodName)) ∈ gtb := tc_2 181 (by decide +kernel) rfl
theorem tw_496 : (Jvm.Cond.instanceMethod ({ cls := "ConstraintText$Reader", name := "takeLink", desc := "(I)Z" } : Jvm.MethodName)) ∈ gtb := tc_2 183 (by decide +kernel) rfl
theorem tw_497 : (Jvm.Cond.code ({ cls := "ConstraintText$Reader", name := "takeLink", desc := "(I)Z" } : Jvm.MethodName) prog_4_method_8_code (3 : Nat) (Option.some Jvm.ClassFile.FieldType.boolean)) ∈ gtb := tc_2 184 (by decide +kernel) rfl
theorem tw_498 : (Jvm.Cond.methodLink "ConstraintText$Reader" (97 : Nat) ({ cls := "ConstraintText$Reader", name := "takeRatio", desc := "(Z)Z" } : Jvm.MethodName)) ∈ gtb := tc_2 185 (by decide +kernel) rfl
theorem tw_500 : (Jvm.Cond.instanceMethod ({ cls := "ConstraintText$Reader", name := "takeRatio", desc := "(Z)Z" } : Jvm.MethodName)) ∈ gtb := tc_2 187 (by decide +kernel) rfl
theorem tw_501 : (Jvm.Cond.code ({ cls := "ConstraintText$Reader", name := "takeRatio", desc := "(Z)Z" } : Jvm.MethodName) prog_4_method_9_code (4 : Nat) (Option.some Jvm.ClassFile.FieldType.boolean)) ∈ gtb := tc_2 188 (by decide +kernel) rfl
theorem tw_502 : (Jvm.Cond.methodLink "ConstraintText$Reader" (146 : Nat) ({ cls := "ConstraintText$ClockTable", name := "setRatio", desc := "(IIZ)V" } : Jvm.MethodName)) ∈ gtb := tc_2 189 (by decide +kernel) rfl
theorem tw_503 : (Jvm.Cond.instanceMethod ({ cls := "ConstraintText$ClockTable", name := "setRatio", desc := "(IIZ)V" } : Jvm.MethodName)) ∈ gtb := tc_2 190 (by decide +kernel) rfl
theorem tw_504 : (Jvm.Cond.selects "ConstraintText$ClockTable" ({ cls := "ConstraintText$ClockTable", name := "setRatio", desc := "(IIZ)V" } : Jvm.MethodName) ({ cls := "ConstraintText$ClockTable", name := "setRatio", desc := "(IIZ)V" } : Jvm.MethodName)) ∈ gtb := tc_2 191 (by decide +kernel) rfl
theorem tw_505 : (Jvm.Cond.code ({ cls := "ConstraintText$ClockTable", name := "setRatio", desc := "(IIZ)V" } : Jvm.MethodName) prog_2_method_6_code (5 : Nat) (Option.none : Option Jvm.ClassFile.FieldType)) ∈ gtb := tc_2 192 (by decide +kernel) rfl
theorem tw_506 : (Jvm.Cond.methodLink "ConstraintText$Reader" (101 : Nat) ({ cls := "ConstraintText$Reader", name := "takePath", desc := "()Z" } : Jvm.MethodName)) ∈ gtb := tc_2 193 (by decide +kernel) rfl
theorem tw_508 : (Jvm.Cond.instanceMethod ({ cls := "ConstraintText$Reader", name := "takePath", desc := "()Z" } : Jvm.MethodName)) ∈ gtb := tc_2 195 (by decide +kernel) rfl
theorem tw_509 : (Jvm.Cond.code ({ cls := "ConstraintText$Reader", name := "takePath", desc := "()Z" } : Jvm.MethodName) prog_4_method_12_code (2 : Nat) (Option.some Jvm.ClassFile.FieldType.boolean)) ∈ gtb := tc_2 196 (by decide +kernel) rfl
theorem tw_510 : (Jvm.Cond.methodLink "ConstraintText$Reader" (159 : Nat) ({ cls := "ConstraintText$Reader", name := "isAnyInHand", desc := "()Z" } : Jvm.MethodName)) ∈ gtb := tc_2 197 (by decide +kernel) rfl
theorem tw_512 : (Jvm.Cond.instanceMethod ({ cls := "ConstraintText$Reader", name := "isAnyInHand", desc := "()Z" } : Jvm.MethodName)) ∈ gtb := tc_2 199 (by decide +kernel) rfl
theorem tw_513 : (Jvm.Cond.code ({ cls := "ConstraintText$Reader", name := "isAnyInHand", desc := "()Z" } : Jvm.MethodName) prog_4_method_19_code (1 : Nat) (Option.some Jvm.ClassFile.FieldType.boolean)) ∈ gtb := tc_2 200 (by decide +kernel) rfl
theorem tw_514 : (Jvm.Cond.methodLink "ConstraintText$Reader" (165 : Nat) ({ cls := "ConstraintText$Sheet", name := "newestHasPattern", desc := "()Z" } : Jvm.MethodName)) ∈ gtb := tc_2 201 (by decide +kernel) rfl
theorem tw_515 : (Jvm.Cond.instanceMethod ({ cls := "ConstraintText$Sheet", name := "newestHasPattern", desc := "()Z" } : Jvm.MethodName)) ∈ gtb := tc_2 202 (by decide +kernel) rfl
theorem tw_516 : (Jvm.Cond.selects "ConstraintText$Sheet" ({ cls := "ConstraintText$Sheet", name := "newestHasPattern", desc := "()Z" } : Jvm.MethodName) ({ cls := "ConstraintText$Sheet", name := "newestHasPattern", desc := "()Z" } : Jvm.MethodName)) ∈ gtb := tc_2 203 (by decide +kernel) rfl
theorem tw_517 : (Jvm.Cond.code ({ cls := "ConstraintText$Sheet", name := "newestHasPattern", desc := "()Z" } : Jvm.MethodName) prog_5_method_7_code (2 : Nat) (Option.some Jvm.ClassFile.FieldType.boolean)) ∈ gtb := tc_2 204 (by decide +kernel) rfl
theorem tw_518 : (Jvm.Cond.methodLink "ConstraintText$Sheet" (56 : Nat) ({ cls := "ConstraintText$Sheet", name := "hasPattern", desc := "(II)Z" } : Jvm.MethodName)) ∈ gtb := tc_2 205 (by decide +kernel) rfl
theorem tw_520 : (Jvm.Cond.instanceMethod ({ cls := "ConstraintText$Sheet", name := "hasPattern", desc := "(II)Z" } : Jvm.MethodName)) ∈ gtb := tc_2 207 (by decide +kernel) rfl
theorem tw_521 : (Jvm.Cond.code ({ cls := "ConstraintText$Sheet", name := "hasPattern", desc := "(II)Z" } : Jvm.MethodName) prog_5_method_23_code (4 : Nat) (Option.some Jvm.ClassFile.FieldType.boolean)) ∈ gtb := tc_2 208 (by decide +kernel) rfl
theorem tw_522 : (Jvm.Cond.methodLink "ConstraintText$Reader" (104 : Nat) ({ cls := "ConstraintText$Reader", name := "takeValue", desc := "(II)Z" } : Jvm.MethodName)) ∈ gtb := tc_2 209 (by decide +kernel) rfl
theorem tw_524 : (Jvm.Cond.instanceMethod ({ cls := "ConstraintText$Reader", name := "takeValue", desc := "(II)Z" } : Jvm.MethodName)) ∈ gtb := tc_2 211 (by decide +kernel) rfl
theorem tw_525 : (Jvm.Cond.code ({ cls := "ConstraintText$Reader", name := "takeValue", desc := "(II)Z" } : Jvm.MethodName) prog_4_method_10_code (4 : Nat) (Option.some Jvm.ClassFile.FieldType.boolean)) ∈ gtb := tc_2 212 (by decide +kernel) rfl
theorem tw_526 : (Jvm.Cond.methodLink "ConstraintText$Reader" (150 : Nat) ({ cls := "ConstraintText$Sheet", name := "setValue", desc := "(I)V" } : Jvm.MethodName)) ∈ gtb := tc_2 213 (by decide +kernel) rfl
theorem tw_527 : (Jvm.Cond.instanceMethod ({ cls := "ConstraintText$Sheet", name := "setValue", desc := "(I)V" } : Jvm.MethodName)) ∈ gtb := tc_2 214 (by decide +kernel) rfl
theorem tw_528 : (Jvm.Cond.selects "ConstraintText$Sheet" ({ cls := "ConstraintText$Sheet", name := "setValue", desc := "(I)V" } : Jvm.MethodName) ({ cls := "ConstraintText$Sheet", name := "setValue", desc := "(I)V" } : Jvm.MethodName)) ∈ gtb := tc_2 215 (by decide +kernel) rfl
theorem tw_529 : (Jvm.Cond.code ({ cls := "ConstraintText$Sheet", name := "setValue", desc := "(I)V" } : Jvm.MethodName) prog_5_method_4_code (2 : Nat) (Option.none : Option Jvm.ClassFile.FieldType)) ∈ gtb := tc_2 216 (by decide +kernel) rfl
theorem tw_530 : (Jvm.Cond.methodLink "ConstraintText$Reader" (109 : Nat) ({ cls := "ConstraintText$Reader", name := "takeEnd", desc := "()Z" } : Jvm.MethodName)) ∈ gtb := tc_2 217 (by decide +kernel) rfl
theorem tw_532 : (Jvm.Cond.instanceMethod ({ cls := "ConstraintText$Reader", name := "takeEnd", desc := "()Z" } : Jvm.MethodName)) ∈ gtb := tc_2 219 (by decide +kernel) rfl
theorem tw_533 : (Jvm.Cond.code ({ cls := "ConstraintText$Reader", name := "takeEnd", desc := "()Z" } : Jvm.MethodName) prog_4_method_15_code (1 : Nat) (Option.some Jvm.ClassFile.FieldType.boolean)) ∈ gtb := tc_2 220 (by decide +kernel) rfl
theorem tw_534 : (Jvm.Cond.methodLink "ConstraintText$Reader" (64 : Nat) ({ cls := "ConstraintText$Reader", name := "bindLinks", desc := "()Z" } : Jvm.MethodName)) ∈ gtb := tc_2 221 (by decide +kernel) rfl
theorem tw_536 : (Jvm.Cond.instanceMethod ({ cls := "ConstraintText$Reader", name := "bindLinks", desc := "()Z" } : Jvm.MethodName)) ∈ gtb := tc_2 223 (by decide +kernel) rfl
theorem tw_537 : (Jvm.Cond.code ({ cls := "ConstraintText$Reader", name := "bindLinks", desc := "()Z" } : Jvm.MethodName) prog_4_method_25_code (3 : Nat) (Option.some Jvm.ClassFile.FieldType.boolean)) ∈ gtb := tc_2 224 (by decide +kernel) rfl
theorem tw_538 : (Jvm.Cond.methodLink "ConstraintText$Reader" (218 : Nat) ({ cls := "ConstraintText$Sheet", name := "linkOf", desc := "(II)I" } : Jvm.MethodName)) ∈ gtb := tc_2 225 (by decide +kernel) rfl
theorem tw_539 : (Jvm.Cond.instanceMethod ({ cls := "ConstraintText$Sheet", name := "linkOf", desc := "(II)I" } : Jvm.MethodName)) ∈ gtb := tc_2 226 (by decide +kernel) rfl
theorem tw_540 : (Jvm.Cond.selects "ConstraintText$Sheet" ({ cls := "ConstraintText$Sheet", name := "linkOf", desc := "(II)I" } : Jvm.MethodName) ({ cls := "ConstraintText$Sheet", name := "linkOf", desc := "(II)I" } : Jvm.MethodName)) ∈ gtb := tc_2 227 (by decide +kernel) rfl
theorem tw_541 : (Jvm.Cond.code ({ cls := "ConstraintText$Sheet", name := "linkOf", desc := "(II)I" } : Jvm.MethodName) prog_5_method_17_code (4 : Nat) (Option.some Jvm.ClassFile.FieldType.int)) ∈ gtb := tc_2 228 (by decide +kernel) rfl
theorem tw_542 : (Jvm.Cond.methodLink "ConstraintText$Reader" (67 : Nat) ({ cls := "ConstraintText$Reader", name := "hasNoRing", desc := "()Z" } : Jvm.MethodName)) ∈ gtb := tc_2 229 (by decide +kernel) rfl
theorem tw_544 : (Jvm.Cond.instanceMethod ({ cls := "ConstraintText$Reader", name := "hasNoRing", desc := "()Z" } : Jvm.MethodName)) ∈ gtb := tc_2 231 (by decide +kernel) rfl
theorem tw_545 : (Jvm.Cond.code ({ cls := "ConstraintText$Reader", name := "hasNoRing", desc := "()Z" } : Jvm.MethodName) prog_4_method_26_code (2 : Nat) (Option.some Jvm.ClassFile.FieldType.boolean)) ∈ gtb := tc_2 232 (by decide +kernel) rfl
theorem tw_546 : (Jvm.Cond.methodLink "ConstraintText$Reader" (221 : Nat) ({ cls := "ConstraintText$ClockTable", name := "inRing", desc := "(I)Z" } : Jvm.MethodName)) ∈ gtb := tc_2 233 (by decide +kernel) rfl
theorem tw_547 : (Jvm.Cond.instanceMethod ({ cls := "ConstraintText$ClockTable", name := "inRing", desc := "(I)Z" } : Jvm.MethodName)) ∈ gtb := tc_2 234 (by decide +kernel) rfl
theorem tw_548 : (Jvm.Cond.selects "ConstraintText$ClockTable" ({ cls := "ConstraintText$ClockTable", name := "inRing", desc := "(I)Z" } : Jvm.MethodName) ({ cls := "ConstraintText$ClockTable", name := "inRing", desc := "(I)Z" } : Jvm.MethodName)) ∈ gtb := tc_2 235 (by decide +kernel) rfl
theorem tw_549 : (Jvm.Cond.code ({ cls := "ConstraintText$ClockTable", name := "inRing", desc := "(I)Z" } : Jvm.MethodName) prog_2_method_7_code (4 : Nat) (Option.some Jvm.ClassFile.FieldType.boolean)) ∈ gtb := tc_2 236 (by decide +kernel) rfl
theorem tw_550 : (Jvm.Cond.methodLink "ConstraintText$Reader" (70 : Nat) ({ cls := "ConstraintText$Reader", name := "hasNoneGreat", desc := "()Z" } : Jvm.MethodName)) ∈ gtb := tc_2 237 (by decide +kernel) rfl
theorem tw_552 : (Jvm.Cond.instanceMethod ({ cls := "ConstraintText$Reader", name := "hasNoneGreat", desc := "()Z" } : Jvm.MethodName)) ∈ gtb := tc_2 239 (by decide +kernel) rfl
theorem tw_553 : (Jvm.Cond.code ({ cls := "ConstraintText$Reader", name := "hasNoneGreat", desc := "()Z" } : Jvm.MethodName) prog_4_method_27_code (2 : Nat) (Option.some Jvm.ClassFile.FieldType.boolean)) ∈ gtb := tc_3 0 (by decide +kernel) rfl
theorem tw_554 : (Jvm.Cond.methodLink "ConstraintText$Reader" (224 : Nat) ({ cls := "ConstraintText$ClockTable", name := "settleAll", desc := "()V" } : Jvm.MethodName)) ∈ gtb := tc_3 1 (by decide +kernel) rfl
theorem tw_555 : (Jvm.Cond.instanceMethod ({ cls := "ConstraintText$ClockTable", name := "settleAll", desc := "()V" } : Jvm.MethodName)) ∈ gtb := tc_3 2 (by decide +kernel) rfl
theorem tw_556 : (Jvm.Cond.selects "ConstraintText$ClockTable" ({ cls := "ConstraintText$ClockTable", name := "settleAll", desc := "()V" } : Jvm.MethodName) ({ cls := "ConstraintText$ClockTable", name := "settleAll", desc := "()V" } : Jvm.MethodName)) ∈ gtb := tc_3 3 (by decide +kernel) rfl
theorem tw_557 : (Jvm.Cond.code ({ cls := "ConstraintText$ClockTable", name := "settleAll", desc := "()V" } : Jvm.MethodName) prog_2_method_8_code (4 : Nat) (Option.none : Option Jvm.ClassFile.FieldType)) ∈ gtb := tc_3 4 (by decide +kernel) rfl
theorem tw_558 : (Jvm.Cond.methodLink "ConstraintText$ClockTable" (55 : Nat) ({ cls := "ConstraintText$ClockTable", name := "settle", desc := "(II)V" } : Jvm.MethodName)) ∈ gtb := tc_3 5 (by decide +kernel) rfl
theorem tw_560 : (Jvm.Cond.instanceMethod ({ cls := "ConstraintText$ClockTable", name := "settle", desc := "(II)V" } : Jvm.MethodName)) ∈ gtb := tc_3 7 (by decide +kernel) rfl
theorem tw_561 : (Jvm.Cond.code ({ cls := "ConstraintText$ClockTable", name := "settle", desc := "(II)V" } : Jvm.MethodName) prog_2_method_9_code (13 : Nat) (Option.none : Option Jvm.ClassFile.FieldType)) ∈ gtb := tc_3 8 (by decide +kernel) rfl
theorem tw_563 : (Jvm.Cond.static ({ cls := "ConstraintText", name := "commonDivisor", desc := "(JJ)J" } : Jvm.MethodName)) ∈ gtb := tc_3 10 (by decide +kernel) rfl
theorem tw_564 : (Jvm.Cond.code ({ cls := "ConstraintText", name := "commonDivisor", desc := "(JJ)J" } : Jvm.MethodName) prog_1_method_23_code (11 : Nat) (Option.some Jvm.ClassFile.FieldType.long)) ∈ gtb := tc_3 11 (by decide +kernel) rfl
theorem tw_565 : (Jvm.Cond.constantLong "ConstraintText$ClockTable" (63 : Nat) (1000000 : Int64)) ∈ gtb := tc_3 12 (by decide +kernel) rfl
theorem tw_566 : (Jvm.Cond.methodLink "ConstraintText" (73 : Nat) ({ cls := "ConstraintText$Tape", name := "wipe", desc := "()V" } : Jvm.MethodName)) ∈ gtb := tc_3 13 (by decide +kernel) rfl
theorem tw_567 : (Jvm.Cond.instanceMethod ({ cls := "ConstraintText$Tape", name := "wipe", desc := "()V" } : Jvm.MethodName)) ∈ gtb := tc_3 14 (by decide +kernel) rfl
theorem tw_568 : (Jvm.Cond.selects "ConstraintText$Tape" ({ cls := "ConstraintText$Tape", name := "wipe", desc := "()V" } : Jvm.MethodName) ({ cls := "ConstraintText$Tape", name := "wipe", desc := "()V" } : Jvm.MethodName)) ∈ gtb := tc_3 15 (by decide +kernel) rfl
theorem tw_569 : (Jvm.Cond.code ({ cls := "ConstraintText$Tape", name := "wipe", desc := "()V" } : Jvm.MethodName) prog_6_method_5_code (1 : Nat) (Option.none : Option Jvm.ClassFile.FieldType)) ∈ gtb := tc_3 16 (by decide +kernel) rfl
theorem tw_570 : (Jvm.Cond.methodLink "ConstraintText" (76 : Nat) ({ cls := "ConstraintText$Reader", name := "exchange", desc := "(LConstraintText$Sheet;)LConstraintText$Sheet;" } : Jvm.MethodName)) ∈ gtb := tc_3 17 (by decide +kernel) rfl
theorem tw_571 : (Jvm.Cond.instanceMethod ({ cls := "ConstraintText$Reader", name := "exchange", desc := "(LConstraintText$Sheet;)LConstraintText$Sheet;" } : Jvm.MethodName)) ∈ gtb := tc_3 18 (by decide +kernel) rfl
theorem tw_572 : (Jvm.Cond.selects "ConstraintText$Reader" ({ cls := "ConstraintText$Reader", name := "exchange", desc := "(LConstraintText$Sheet;)LConstraintText$Sheet;" } : Jvm.MethodName) ({ cls := "ConstraintText$Reader", name := "exchange", desc := "(LConstraintText$Sheet;)LConstraintText$Sheet;" } : Jvm.MethodName)) ∈ gtb := tc_3 19 (by decide +kernel) rfl
theorem tw_573 : (Jvm.Cond.code ({ cls := "ConstraintText$Reader", name := "exchange", desc := "(LConstraintText$Sheet;)LConstraintText$Sheet;" } : Jvm.MethodName) prog_4_method_2_code (3 : Nat) (Option.some (Jvm.ClassFile.FieldType.object "ConstraintText$Sheet"))) ∈ gtb := tc_3 20 (by decide +kernel) rfl
theorem tw_574 : (Jvm.Cond.methodLink "ConstraintText" (66 : Nat) ({ cls := "ConstraintText$Sheet", name := "matchPin", desc := "(LConstraintText$Pins;I)V" } : Jvm.MethodName)) ∈ gtb := tc_3 21 (by decide +kernel) rfl
theorem tw_575 : (Jvm.Cond.instanceMethod ({ cls := "ConstraintText$Sheet", name := "matchPin", desc := "(LConstraintText$Pins;I)V" } : Jvm.MethodName)) ∈ gtb := tc_3 22 (by decide +kernel) rfl
theorem tw_576 : (Jvm.Cond.selects "ConstraintText$Sheet" ({ cls := "ConstraintText$Sheet", name := "matchPin", desc := "(LConstraintText$Pins;I)V" } : Jvm.MethodName) ({ cls := "ConstraintText$Sheet", name := "matchPin", desc := "(LConstraintText$Pins;I)V" } : Jvm.MethodName)) ∈ gtb := tc_3 23 (by decide +kernel) rfl
theorem tw_577 : (Jvm.Cond.code ({ cls := "ConstraintText$Sheet", name := "matchPin", desc := "(LConstraintText$Pins;I)V" } : Jvm.MethodName) prog_5_method_13_code (6 : Nat) (Option.none : Option Jvm.ClassFile.FieldType)) ∈ gtb := tc_3 24 (by decide +kernel) rfl
theorem tw_578 : (Jvm.Cond.constantLong "ConstraintText$Sheet" (72 : Nat) (-1 : Int64)) ∈ gtb := tc_3 25 (by decide +kernel) rfl
theorem tw_579 : (Jvm.Cond.methodLink "ConstraintText$Sheet" (74 : Nat) ({ cls := "ConstraintText$Sheet", name := "fits", desc := "(ILConstraintText$Pins;I)Z" } : Jvm.MethodName)) ∈ gtb := tc_3 26 (by decide +kernel) rfl
theorem tw_581 : (Jvm.Cond.instanceMethod ({ cls := "ConstraintText$Sheet", name := "fits", desc := "(ILConstraintText$Pins;I)Z" } : Jvm.MethodName)) ∈ gtb := tc_3 28 (by decide +kernel) rfl
theorem tw_582 : (Jvm.Cond.code ({ cls := "ConstraintText$Sheet", name := "fits", desc := "(ILConstraintText$Pins;I)Z" } : Jvm.MethodName) prog_5_method_14_code (7 : Nat) (Option.some Jvm.ClassFile.FieldType.boolean)) ∈ gtb := tc_3 29 (by decide +kernel) rfl
theorem tw_583 : (Jvm.Cond.methodLink "ConstraintText$Sheet" (78 : Nat) ({ cls := "ConstraintText$Pins", name := "lengthOf", desc := "(I)I" } : Jvm.MethodName)) ∈ gtb := tc_3 30 (by decide +kernel) rfl
theorem tw_584 : (Jvm.Cond.instanceMethod ({ cls := "ConstraintText$Pins", name := "lengthOf", desc := "(I)I" } : Jvm.MethodName)) ∈ gtb := tc_3 31 (by decide +kernel) rfl
theorem tw_585 : (Jvm.Cond.selects "ConstraintText$Pins" ({ cls := "ConstraintText$Pins", name := "lengthOf", desc := "(I)I" } : Jvm.MethodName) ({ cls := "ConstraintText$Pins", name := "lengthOf", desc := "(I)I" } : Jvm.MethodName)) ∈ gtb := tc_3 32 (by decide +kernel) rfl
theorem tw_586 : (Jvm.Cond.code ({ cls := "ConstraintText$Pins", name := "lengthOf", desc := "(I)I" } : Jvm.MethodName) prog_3_method_4_code (2 : Nat) (Option.some Jvm.ClassFile.FieldType.int)) ∈ gtb := tc_3 33 (by decide +kernel) rfl
theorem tw_587 : (Jvm.Cond.methodLink "ConstraintText$Pins" (23 : Nat) ({ cls := "ConstraintText$Pins", name := "has", desc := "(I)Z" } : Jvm.MethodName)) ∈ gtb := tc_3 34 (by decide +kernel) rfl
theorem tw_588 : (Jvm.Cond.static ({ cls := "ConstraintText$Pins", name := "has", desc := "(I)Z" } : Jvm.MethodName)) ∈ gtb := tc_3 35 (by decide +kernel) rfl
theorem tw_589 : (Jvm.Cond.code ({ cls := "ConstraintText$Pins", name := "has", desc := "(I)Z" } : Jvm.MethodName) prog_3_method_2_code (1 : Nat) (Option.some Jvm.ClassFile.FieldType.boolean)) ∈ gtb := tc_3 36 (by decide +kernel) rfl
theorem tw_590 : (Jvm.Cond.methodLink "ConstraintText$Sheet" (83 : Nat) ({ cls := "ConstraintText$Sheet", name := "reachedByStars", desc := "(I)I" } : Jvm.MethodName)) ∈ gtb := tc_3 37 (by decide +kernel) rfl
theorem tw_592 : (Jvm.Cond.instanceMethod ({ cls := "ConstraintText$Sheet", name := "reachedByStars", desc := "(I)I" } : Jvm.MethodName)) ∈ gtb := tc_3 39 (by decide +kernel) rfl
theorem tw_593 : (Jvm.Cond.code ({ cls := "ConstraintText$Sheet", name := "reachedByStars", desc := "(I)I" } : Jvm.MethodName) prog_5_method_15_code (4 : Nat) (Option.some Jvm.ClassFile.FieldType.int)) ∈ gtb := tc_3 40 (by decide +kernel) rfl
theorem tw_594 : (Jvm.Cond.methodLink "ConstraintText$Sheet" (86 : Nat) ({ cls := "ConstraintText$Pins", name := "at", desc := "(II)C" } : Jvm.MethodName)) ∈ gtb := tc_3 41 (by decide +kernel) rfl
theorem tw_595 : (Jvm.Cond.instanceMethod ({ cls := "ConstraintText$Pins", name := "at", desc := "(II)C" } : Jvm.MethodName)) ∈ gtb := tc_3 42 (by decide +kernel) rfl
theorem tw_596 : (Jvm.Cond.selects "ConstraintText$Pins" ({ cls := "ConstraintText$Pins", name := "at", desc := "(II)C" } : Jvm.MethodName) ({ cls := "ConstraintText$Pins", name := "at", desc := "(II)C" } : Jvm.MethodName)) ∈ gtb := tc_3 43 (by decide +kernel) rfl
theorem tw_597 : (Jvm.Cond.code ({ cls := "ConstraintText$Pins", name := "at", desc := "(II)C" } : Jvm.MethodName) prog_3_method_5_code (3 : Nat) (Option.some Jvm.ClassFile.FieldType.char)) ∈ gtb := tc_3 44 (by decide +kernel) rfl
theorem tw_598 : (Jvm.Cond.methodLink "ConstraintText$Pins" (19 : Nat) ({ cls := "ConstraintText$Pins", name := "lengthOf", desc := "(I)I" } : Jvm.MethodName)) ∈ gtb := tc_3 45 (by decide +kernel) rfl
theorem tw_599 : (Jvm.Cond.methodLink "ConstraintText$Sheet" (90 : Nat) ({ cls := "ConstraintText$Sheet", name := "reachedBy", desc := "(III)I" } : Jvm.MethodName)) ∈ gtb := tc_3 46 (by decide +kernel) rfl
theorem tw_601 : (Jvm.Cond.instanceMethod ({ cls := "ConstraintText$Sheet", name := "reachedBy", desc := "(III)I" } : Jvm.MethodName)) ∈ gtb := tc_3 48 (by decide +kernel) rfl
theorem tw_602 : (Jvm.Cond.code ({ cls := "ConstraintText$Sheet", name := "reachedBy", desc := "(III)I" } : Jvm.MethodName) prog_5_method_16_code (8 : Nat) (Option.some Jvm.ClassFile.FieldType.int)) ∈ gtb := tc_3 49 (by decide +kernel) rfl
theorem tw_603 : (Jvm.Cond.arrayClass Jvm.ClassFile.FieldType.byte) ∈ gtb := tc_3 50 (by decide +kernel) rfl
theorem tw_604 : (Jvm.Cond.methodLink "ConstraintTextLaw" (62 : Nat) ({ cls := "ConstraintTextLaw", name := "name", desc := "(LConstraintText;II[J)I" } : Jvm.MethodName)) ∈ gtb := tc_3 51 (by decide +kernel) rfl
theorem tw_605 : (Jvm.Cond.static ({ cls := "ConstraintTextLaw", name := "name", desc := "(LConstraintText;II[J)I" } : Jvm.MethodName)) ∈ gtb := tc_3 52 (by decide +kernel) rfl
theorem tw_607 : (Jvm.Cond.classLink "ConstraintTextLaw" (13 : Nat) "java/lang/IndexOutOfBoundsException") ∈ gtb := tc_3 54 (by decide +kernel) rfl
theorem tw_608 : (Jvm.Cond.methodLink "ConstraintTextLaw" (7 : Nat) ({ cls := "ConstraintText", name := "name", desc := "(II)Z" } : Jvm.MethodName)) ∈ gtb := tc_3 55 (by decide +kernel) rfl
theorem tw_609 : (Jvm.Cond.instanceMethod ({ cls := "ConstraintText", name := "name", desc := "(II)Z" } : Jvm.MethodName)) ∈ gtb := tc_3 56 (by decide +kernel) rfl
theorem tw_610 : (Jvm.Cond.selects "ConstraintText" ({ cls := "ConstraintText", name := "name", desc := "(II)Z" } : Jvm.MethodName) ({ cls := "ConstraintText", name := "name", desc := "(II)Z" } : Jvm.MethodName)) ∈ gtb := tc_3 57 (by decide +kernel) rfl
theorem tw_611 : (Jvm.Cond.code ({ cls := "ConstraintText", name := "name", desc := "(II)Z" } : Jvm.MethodName) prog_1_method_4_code (3 : Nat) (Option.some Jvm.ClassFile.FieldType.boolean)) ∈ gtb := tc_3 58 (by decide +kernel) rfl
theorem tw_612 : (Jvm.Cond.methodLink "ConstraintText" (49 : Nat) ({ cls := "ConstraintText$Pins", name := "has", desc := "(I)Z" } : Jvm.MethodName)) ∈ gtb := tc_3 59 (by decide +kernel) rfl
theorem tw_613 : (Jvm.Cond.classLink "ConstraintText" (52 : Nat) "java/lang/IndexOutOfBoundsException") ∈ gtb := tc_3 60 (by decide +kernel) rfl
theorem tw_614 : (Jvm.Cond.instantiable "java/lang/IndexOutOfBoundsException" (6 : Nat)) ∈ gtb := tc_3 61 (by decide +kernel) rfl
theorem tw_622 : (Jvm.Cond.selects "java/lang/IndexOutOfBoundsException" ({ cls := "java/lang/Throwable", name := "fillInStackTrace", desc := "(I)Ljava/lang/Throwable;" } : Jvm.MethodName) ({ cls := "java/lang/Throwable", name := "fillInStackTrace", desc := "(I)Ljava/lang/Throwable;" } : Jvm.MethodName)) ∈ gtb := tc_3 69 (by decide +kernel) rfl
theorem tw_623 : (Jvm.Cond.selects "java/lang/IndexOutOfBoundsException" ({ cls := "java/lang/Throwable", name := "fillInStackTrace", desc := "()Ljava/lang/Throwable;" } : Jvm.MethodName) ({ cls := "java/lang/Throwable", name := "fillInStackTrace", desc := "()Ljava/lang/Throwable;" } : Jvm.MethodName)) ∈ gtb := tc_3 70 (by decide +kernel) rfl
theorem tw_624 : (Jvm.Cond.lays "java/lang/IndexOutOfBoundsException" "java/lang/Throwable" "cause" "Ljava/lang/Throwable;") ∈ gtb := tc_3 71 (by decide +kernel) rfl
theorem tw_625 : (Jvm.Cond.lays "java/lang/Throwable" "java/lang/Throwable" "cause" "Ljava/lang/Throwable;") ∈ gtb := tc_3 72 (by decide +kernel) rfl
theorem tw_626 : (Jvm.Cond.lays "java/lang/IndexOutOfBoundsException" "java/lang/Throwable" "stackTrace" "[Ljava/lang/StackTraceElement;") ∈ gtb := tc_3 73 (by decide +kernel) rfl
theorem tw_627 : (Jvm.Cond.lays "java/lang/Throwable" "java/lang/Throwable" "stackTrace" "[Ljava/lang/StackTraceElement;") ∈ gtb := tc_3 74 (by decide +kernel) rfl
theorem tw_628 : (Jvm.Cond.lays "java/lang/IndexOutOfBoundsException" "java/lang/Throwable" "suppressedExceptions" "Ljava/util/List;") ∈ gtb := tc_3 75 (by decide +kernel) rfl
theorem tw_629 : (Jvm.Cond.lays "java/lang/Throwable" "java/lang/Throwable" "suppressedExceptions" "Ljava/util/List;") ∈ gtb := tc_3 76 (by decide +kernel) rfl
theorem tw_630 : (Jvm.Cond.lays "java/lang/IndexOutOfBoundsException" "java/lang/Throwable" "detailMessage" "Ljava/lang/String;") ∈ gtb := tc_3 77 (by decide +kernel) rfl
theorem tw_631 : (Jvm.Cond.lays "java/lang/Throwable" "java/lang/Throwable" "detailMessage" "Ljava/lang/String;") ∈ gtb := tc_3 78 (by decide +kernel) rfl
theorem tw_632 : (Jvm.Cond.lays "java/lang/IndexOutOfBoundsException" "java/lang/Throwable" "backtrace" "Ljava/lang/Object;") ∈ gtb := tc_3 79 (by decide +kernel) rfl
theorem tw_633 : (Jvm.Cond.lays "java/lang/Throwable" "java/lang/Throwable" "backtrace" "Ljava/lang/Object;") ∈ gtb := tc_3 80 (by decide +kernel) rfl
theorem tw_634 : (Jvm.Cond.fieldLink "java/lang/Throwable" (198 : Nat) "java/lang/Throwable" "backtrace" "Ljava/lang/Object;") ∈ gtb := tc_3 81 (by decide +kernel) rfl
theorem tw_635 : (Jvm.Cond.superclass "java/lang/Throwable" "java/lang/Object") ∈ gtb := tc_3 82 (by decide +kernel) rfl
theorem tw_636 : (Jvm.Cond.instanceMethod ({ cls := "java/lang/Throwable", name := "<init>", desc := "()V" } : Jvm.MethodName)) ∈ gtb := tc_3 83 (by decide +kernel) rfl
theorem tw_637 : (Jvm.Cond.code ({ cls := "java/lang/Throwable", name := "<init>", desc := "()V" } : Jvm.MethodName) prog_17_method_1_code (1 : Nat) (Option.none : Option Jvm.ClassFile.FieldType)) ∈ gtb := tc_3 84 (by decide +kernel) rfl
theorem tw_638 : (Jvm.Cond.methodLink "java/lang/Throwable" (1 : Nat) ({ cls := "java/lang/Object", name := "<init>", desc := "()V" } : Jvm.MethodName)) ∈ gtb := tc_3 85 (by decide +kernel) rfl
theorem tw_639 : (Jvm.Cond.fieldLink "java/lang/Throwable" (13 : Nat) "java/lang/Throwable" "UNASSIGNED_STACK" "[Ljava/lang/StackTraceElement;") ∈ gtb := tc_3 86 (by decide +kernel) rfl
theorem tw_641 : (Jvm.Cond.fieldLink "java/lang/Throwable" (20 : Nat) "java/lang/Throwable" "SUPPRESSED_SENTINEL" "Ljava/util/List;") ∈ gtb := tc_3 88 (by decide +kernel) rfl
theorem tw_643 : (Jvm.Cond.methodLink "java/lang/Throwable" (27 : Nat) ({ cls := "java/lang/Throwable", name := "fillInStackTrace", desc := "()Ljava/lang/Throwable;" } : Jvm.MethodName)) ∈ gtb := tc_3 90 (by decide +kernel) rfl
theorem tw_644 : (Jvm.Cond.instanceMethod ({ cls := "java/lang/Throwable", name := "fillInStackTrace", desc := "()Ljava/lang/Throwable;" } : Jvm.MethodName)) ∈ gtb := tc_3 91 (by decide +kernel) rfl
theorem tw_645 : (Jvm.Cond.sameMethod "java/lang/Throwable" "java/lang/Throwable" "fillInStackTrace" "()Ljava/lang/Throwable;") ∈ gtb := tc_3 92 (by decide +kernel) rfl
theorem tw_647 : (Jvm.Cond.methodLink "java/lang/Throwable" (202 : Nat) ({ cls := "java/lang/Throwable", name := "fillInStackTrace", desc := "(I)Ljava/lang/Throwable;" } : Jvm.MethodName)) ∈ gtb := tc_3 94 (by decide +kernel) rfl
theorem tw_649 : (Jvm.Cond.instanceMethod ({ cls := "java/lang/Throwable", name := "fillInStackTrace", desc := "(I)Ljava/lang/Throwable;" } : Jvm.MethodName)) ∈ gtb := tc_3 96 (by decide +kernel) rfl
theorem tw_650 : (Jvm.Cond.instantiable "java/lang/Throwable" (6 : Nat)) ∈ gtb := tc_3 97 (by decide +kernel) rfl
theorem tw_653 : (Jvm.Cond.methodLink "ConstraintText" (56 : Nat) ({ cls := "java/lang/IndexOutOfBoundsException", name := "<init>", desc := "(Ljava/lang/String;)V" } : Jvm.MethodName)) ∈ gtb := tc_3 100 (by decide +kernel) rfl
theorem tw_654 : (Jvm.Cond.instanceMethod ({ cls := "java/lang/IndexOutOfBoundsException", name := "<init>", desc := "(Ljava/lang/String;)V" } : Jvm.MethodName)) ∈ gtb := tc_3 101 (by decide +kernel) rfl
theorem tw_655 : (Jvm.Cond.code ({ cls := "java/lang/IndexOutOfBoundsException", name := "<init>", desc := "(Ljava/lang/String;)V" } : Jvm.MethodName) prog_10_method_2_code (2 : Nat) (Option.none : Option Jvm.ClassFile.FieldType)) ∈ gtb := tc_3 102 (by decide +kernel) rfl
theorem tw_656 : (Jvm.Cond.methodLink "java/lang/IndexOutOfBoundsException" (7 : Nat) ({ cls := "java/lang/RuntimeException", name := "<init>", desc := "(Ljava/lang/String;)V" } : Jvm.MethodName)) ∈ gtb := tc_3 103 (by decide +kernel) rfl
theorem tw_657 : (Jvm.Cond.instanceMethod ({ cls := "java/lang/RuntimeException", name := "<init>", desc := "(Ljava/lang/String;)V" } : Jvm.MethodName)) ∈ gtb := tc_3 104 (by decide +kernel) rfl
theorem tw_658 : (Jvm.Cond.code ({ cls := "java/lang/RuntimeException", name := "<init>", desc := "(Ljava/lang/String;)V" } : Jvm.MethodName) prog_13_method_2_code (2 : Nat) (Option.none : Option Jvm.ClassFile.FieldType)) ∈ gtb := tc_3 105 (by decide +kernel) rfl
theorem tw_659 : (Jvm.Cond.methodLink "java/lang/RuntimeException" (7 : Nat) ({ cls := "java/lang/Exception", name := "<init>", desc := "(Ljava/lang/String;)V" } : Jvm.MethodName)) ∈ gtb := tc_3 106 (by decide +kernel) rfl
theorem tw_660 : (Jvm.Cond.instanceMethod ({ cls := "java/lang/Exception", name := "<init>", desc := "(Ljava/lang/String;)V" } : Jvm.MethodName)) ∈ gtb := tc_3 107 (by decide +kernel) rfl
theorem tw_661 : (Jvm.Cond.code ({ cls := "java/lang/Exception", name := "<init>", desc := "(Ljava/lang/String;)V" } : Jvm.MethodName) prog_9_method_2_code (2 : Nat) (Option.none : Option Jvm.ClassFile.FieldType)) ∈ gtb := tc_3 108 (by decide +kernel) rfl
theorem tw_662 : (Jvm.Cond.methodLink "java/lang/Exception" (7 : Nat) ({ cls := "java/lang/Throwable", name := "<init>", desc := "(Ljava/lang/String;)V" } : Jvm.MethodName)) ∈ gtb := tc_3 109 (by decide +kernel) rfl
theorem tw_663 : (Jvm.Cond.instanceMethod ({ cls := "java/lang/Throwable", name := "<init>", desc := "(Ljava/lang/String;)V" } : Jvm.MethodName)) ∈ gtb := tc_3 110 (by decide +kernel) rfl
theorem tw_664 : (Jvm.Cond.code ({ cls := "java/lang/Throwable", name := "<init>", desc := "(Ljava/lang/String;)V" } : Jvm.MethodName) prog_17_method_2_code (2 : Nat) (Option.none : Option Jvm.ClassFile.FieldType)) ∈ gtb := tc_3 111 (by decide +kernel) rfl
theorem tw_666 : (Jvm.Cond.fieldLink "java/lang/Throwable" (31 : Nat) "java/lang/Throwable" "detailMessage" "Ljava/lang/String;") ∈ gtb := tc_3 113 (by decide +kernel) rfl
theorem tw_667 : (Jvm.Cond.fieldLink "java/lang/Throwable" (7 : Nat) "java/lang/Throwable" "cause" "Ljava/lang/Throwable;") ∈ gtb := tc_3 114 (by decide +kernel) rfl
theorem tw_668 : (Jvm.Cond.fieldLink "java/lang/Throwable" (17 : Nat) "java/lang/Throwable" "stackTrace" "[Ljava/lang/StackTraceElement;") ∈ gtb := tc_3 115 (by decide +kernel) rfl
theorem tw_669 : (Jvm.Cond.fieldLink "java/lang/Throwable" (24 : Nat) "java/lang/Throwable" "suppressedExceptions" "Ljava/util/List;") ∈ gtb := tc_3 116 (by decide +kernel) rfl
theorem tw_674 : (Jvm.Cond.lays "java/lang/IndexOutOfBoundsException" "java/lang/Throwable" "depth" "I") ∈ gtb := tc_3 121 (by decide +kernel) rfl
theorem tw_677 : (Jvm.Cond.superclass "java/lang/IndexOutOfBoundsException" "java/lang/RuntimeException") ∈ gtb := tc_3 124 (by decide +kernel) rfl
theorem tw_678 : (Jvm.Cond.methodLink "ConstraintText" (59 : Nat) ({ cls := "ConstraintText", name := "isNameUnit", desc := "(I)Z" } : Jvm.MethodName)) ∈ gtb := tc_3 125 (by decide +kernel) rfl
theorem tw_679 : (Jvm.Cond.methodLink "ConstraintText" (62 : Nat) ({ cls := "ConstraintText$Pins", name := "grow", desc := "(II)Z" } : Jvm.MethodName)) ∈ gtb := tc_3 126 (by decide +kernel) rfl
theorem tw_680 : (Jvm.Cond.instanceMethod ({ cls := "ConstraintText$Pins", name := "grow", desc := "(II)Z" } : Jvm.MethodName)) ∈ gtb := tc_3 127 (by decide +kernel) rfl
theorem tw_681 : (Jvm.Cond.selects "ConstraintText$Pins" ({ cls := "ConstraintText$Pins", name := "grow", desc := "(II)Z" } : Jvm.MethodName) ({ cls := "ConstraintText$Pins", name := "grow", desc := "(II)Z" } : Jvm.MethodName)) ∈ gtb := tc_3 128 (by decide +kernel) rfl
theorem tw_682 : (Jvm.Cond.code ({ cls := "ConstraintText$Pins", name := "grow", desc := "(II)Z" } : Jvm.MethodName) prog_3_method_3_code (4 : Nat) (Option.some Jvm.ClassFile.FieldType.boolean)) ∈ gtb := tc_3 129 (by decide +kernel) rfl
theorem tw_683 : (Jvm.Cond.methodLink "ConstraintTextLaw" (76 : Nat) ({ cls := "ConstraintTextLaw", name := "clock", desc := "(LConstraintText;II[J)I" } : Jvm.MethodName)) ∈ gtb := tc_3 130 (by decide +kernel) rfl
theorem tw_684 : (Jvm.Cond.static ({ cls := "ConstraintTextLaw", name := "clock", desc := "(LConstraintText;II[J)I" } : Jvm.MethodName)) ∈ gtb := tc_3 131 (by decide +kernel) rfl
theorem tw_686 : (Jvm.Cond.methodLink "ConstraintTextLaw" (15 : Nat) ({ cls := "ConstraintText", name := "clock", desc := "(II)I" } : Jvm.MethodName)) ∈ gtb := tc_3 133 (by decide +kernel) rfl
theorem tw_687 : (Jvm.Cond.instanceMethod ({ cls := "ConstraintText", name := "clock", desc := "(II)I" } : Jvm.MethodName)) ∈ gtb := tc_3 134 (by decide +kernel) rfl
theorem tw_688 : (Jvm.Cond.selects "ConstraintText" ({ cls := "ConstraintText", name := "clock", desc := "(II)I" } : Jvm.MethodName) ({ cls := "ConstraintText", name := "clock", desc := "(II)I" } : Jvm.MethodName)) ∈ gtb := tc_3 135 (by decide +kernel) rfl
theorem tw_689 : (Jvm.Cond.code ({ cls := "ConstraintText", name := "clock", desc := "(II)I" } : Jvm.MethodName) prog_1_method_6_code (3 : Nat) (Option.some Jvm.ClassFile.FieldType.int)) ∈ gtb := tc_3 136 (by decide +kernel) rfl
theorem tw_690 : (Jvm.Cond.methodLink "ConstraintText" (88 : Nat) ({ cls := "ConstraintText$ClockTable", name := "has", desc := "(I)Z" } : Jvm.MethodName)) ∈ gtb := tc_3 137 (by decide +kernel) rfl
theorem tw_692 : (Jvm.Cond.methodLink "ConstraintText" (97 : Nat) ({ cls := "ConstraintText$Sheet", name := "hitsOf", desc := "(II)J" } : Jvm.MethodName)) ∈ gtb := tc_3 139 (by decide +kernel) rfl
theorem tw_693 : (Jvm.Cond.instanceMethod ({ cls := "ConstraintText$Sheet", name := "hitsOf", desc := "(II)J" } : Jvm.MethodName)) ∈ gtb := tc_3 140 (by decide +kernel) rfl
theorem tw_694 : (Jvm.Cond.selects "ConstraintText$Sheet" ({ cls := "ConstraintText$Sheet", name := "hitsOf", desc := "(II)J" } : Jvm.MethodName) ({ cls := "ConstraintText$Sheet", name := "hitsOf", desc := "(II)J" } : Jvm.MethodName)) ∈ gtb := tc_3 141 (by decide +kernel) rfl
theorem tw_695 : (Jvm.Cond.code ({ cls := "ConstraintText$Sheet", name := "hitsOf", desc := "(II)J" } : Jvm.MethodName) prog_5_method_12_code (4 : Nat) (Option.some Jvm.ClassFile.FieldType.long)) ∈ gtb := tc_3 142 (by decide +kernel) rfl
theorem tw_696 : (Jvm.Cond.methodLink "ConstraintText" (101 : Nat) ({ cls := "java/lang/Long", name := "bitCount", desc := "(J)I" } : Jvm.MethodName)) ∈ gtb := tc_3 143 (by decide +kernel) rfl
theorem tw_697 : (Jvm.Cond.static ({ cls := "java/lang/Long", name := "bitCount", desc := "(J)I" } : Jvm.MethodName)) ∈ gtb := tc_3 144 (by decide +kernel) rfl
theorem tw_698 : (Jvm.Cond.code ({ cls := "java/lang/Long", name := "bitCount", desc := "(J)I" } : Jvm.MethodName) prog_11_method_50_code (2 : Nat) (Option.some Jvm.ClassFile.FieldType.int)) ∈ gtb := tc_3 145 (by decide +kernel) rfl
theorem tw_699 : (Jvm.Cond.constantLong "java/lang/Long" (314 : Nat) (6148914691236517205 : Int64)) ∈ gtb := tc_3 146 (by decide +kernel) rfl
theorem tw_700 : (Jvm.Cond.constantLong "java/lang/Long" (316 : Nat) (3689348814741910323 : Int64)) ∈ gtb := tc_3 147 (by decide +kernel) rfl
theorem tw_701 : (Jvm.Cond.constantLong "java/lang/Long" (318 : Nat) (1085102592571150095 : Int64)) ∈ gtb := tc_3 148 (by decide +kernel) rfl
theorem tw_702 : (Jvm.Cond.methodLink "ConstraintText" (107 : Nat) ({ cls := "ConstraintText$ClockTable", name := "fact", desc := "(II)I" } : Jvm.MethodName)) ∈ gtb := tc_3 149 (by decide +kernel) rfl
theorem tw_703 : (Jvm.Cond.instanceMethod ({ cls := "ConstraintText$ClockTable", name := "fact", desc := "(II)I" } : Jvm.MethodName)) ∈ gtb := tc_3 150 (by decide +kernel) rfl
theorem tw_704 : (Jvm.Cond.selects "ConstraintText$ClockTable" ({ cls := "ConstraintText$ClockTable", name := "fact", desc := "(II)I" } : Jvm.MethodName) ({ cls := "ConstraintText$ClockTable", name := "fact", desc := "(II)I" } : Jvm.MethodName)) ∈ gtb := tc_3 151 (by decide +kernel) rfl
theorem tw_705 : (Jvm.Cond.code ({ cls := "ConstraintText$ClockTable", name := "fact", desc := "(II)I" } : Jvm.MethodName) prog_2_method_10_code (3 : Nat) (Option.some Jvm.ClassFile.FieldType.int)) ∈ gtb := tc_3 152 (by decide +kernel) rfl
theorem tw_706 : (Jvm.Cond.methodLink "ConstraintTextLaw" (79 : Nat) ({ cls := "ConstraintTextLaw", name := "edge", desc := "(LConstraintText;III[J)I" } : Jvm.MethodName)) ∈ gtb := tc_3 153 (by decide +kernel) rfl
theorem tw_707 : (Jvm.Cond.static ({ cls := "ConstraintTextLaw", name := "edge", desc := "(LConstraintText;III[J)I" } : Jvm.MethodName)) ∈ gtb := tc_3 154 (by decide +kernel) rfl
theorem tw_709 : (Jvm.Cond.methodLink "ConstraintTextLaw" (19 : Nat) ({ cls := "ConstraintText", name := "edge", desc := "(III)J" } : Jvm.MethodName)) ∈ gtb := tc_3 156 (by decide +kernel) rfl
theorem tw_710 : (Jvm.Cond.instanceMethod ({ cls := "ConstraintText", name := "edge", desc := "(III)J" } : Jvm.MethodName)) ∈ gtb := tc_3 157 (by decide +kernel) rfl
theorem tw_711 : (Jvm.Cond.selects "ConstraintText" ({ cls := "ConstraintText", name := "edge", desc := "(III)J" } : Jvm.MethodName) ({ cls := "ConstraintText", name := "edge", desc := "(III)J" } : Jvm.MethodName)) ∈ gtb := tc_3 158 (by decide +kernel) rfl
theorem tw_712 : (Jvm.Cond.code ({ cls := "ConstraintText", name := "edge", desc := "(III)J" } : Jvm.MethodName) prog_1_method_7_code (4 : Nat) (Option.some Jvm.ClassFile.FieldType.long)) ∈ gtb := tc_3 159 (by decide +kernel) rfl
theorem tw_714 : (Jvm.Cond.methodLink "ConstraintText" (113 : Nat) ({ cls := "ConstraintText$ClockTable", name := "edgePart", desc := "(III)J" } : Jvm.MethodName)) ∈ gtb := tc_3 161 (by decide +kernel) rfl
theorem tw_715 : (Jvm.Cond.instanceMethod ({ cls := "ConstraintText$ClockTable", name := "edgePart", desc := "(III)J" } : Jvm.MethodName)) ∈ gtb := tc_3 162 (by decide +kernel) rfl
theorem tw_716 : (Jvm.Cond.selects "ConstraintText$ClockTable" ({ cls := "ConstraintText$ClockTable", name := "edgePart", desc := "(III)J" } : Jvm.MethodName) ({ cls := "ConstraintText$ClockTable", name := "edgePart", desc := "(III)J" } : Jvm.MethodName)) ∈ gtb := tc_3 163 (by decide +kernel) rfl
theorem tw_717 : (Jvm.Cond.code ({ cls := "ConstraintText$ClockTable", name := "edgePart", desc := "(III)J" } : Jvm.MethodName) prog_2_method_11_code (8 : Nat) (Option.some Jvm.ClassFile.FieldType.long)) ∈ gtb := tc_3 164 (by decide +kernel) rfl
theorem tw_718 : (Jvm.Cond.constantLong "ConstraintText$ClockTable" (65 : Nat) (-1 : Int64)) ∈ gtb := tc_3 165 (by decide +kernel) rfl
theorem tw_720 : (Jvm.Cond.static ({ cls := "ConstraintText", name := "lowestPart", desc := "(JJI)J" } : Jvm.MethodName)) ∈ gtb := tc_3 167 (by decide +kernel) rfl
theorem tw_721 : (Jvm.Cond.code ({ cls := "ConstraintText", name := "lowestPart", desc := "(JJI)J" } : Jvm.MethodName) prog_1_method_24_code (7 : Nat) (Option.some Jvm.ClassFile.FieldType.long)) ∈ gtb := tc_3 168 (by decide +kernel) rfl
theorem tw_722 : (Jvm.Cond.methodLink "ConstraintText" (196 : Nat) ({ cls := "ConstraintText", name := "commonDivisor", desc := "(JJ)J" } : Jvm.MethodName)) ∈ gtb := tc_3 169 (by decide +kernel) rfl
theorem tw_723 : (Jvm.Cond.methodLink "ConstraintTextLaw" (83 : Nat) ({ cls := "ConstraintTextLaw", name := "distance", desc := "(LConstraintText;III[J)I" } : Jvm.MethodName)) ∈ gtb := tc_3 170 (by decide +kernel) rfl
theorem tw_724 : (Jvm.Cond.static ({ cls := "ConstraintTextLaw", name := "distance", desc := "(LConstraintText;III[J)I" } : Jvm.MethodName)) ∈ gtb := tc_3 171 (by decide +kernel) rfl
theorem tw_726 : (Jvm.Cond.methodLink "ConstraintTextLaw" (23 : Nat) ({ cls := "ConstraintText", name := "distance", desc := "(III)J" } : Jvm.MethodName)) ∈ gtb := tc_3 173 (by decide +kernel) rfl
theorem tw_727 : (Jvm.Cond.instanceMethod ({ cls := "ConstraintText", name := "distance", desc := "(III)J" } : Jvm.MethodName)) ∈ gtb := tc_3 174 (by decide +kernel) rfl
theorem tw_728 : (Jvm.Cond.selects "ConstraintText" ({ cls := "ConstraintText", name := "distance", desc := "(III)J" } : Jvm.MethodName) ({ cls := "ConstraintText", name := "distance", desc := "(III)J" } : Jvm.MethodName)) ∈ gtb := tc_3 175 (by decide +kernel) rfl
theorem tw_729 : (Jvm.Cond.code ({ cls := "ConstraintText", name := "distance", desc := "(III)J" } : Jvm.MethodName) prog_1_method_8_code (4 : Nat) (Option.some Jvm.ClassFile.FieldType.long)) ∈ gtb := tc_3 176 (by decide +kernel) rfl
theorem tw_731 : (Jvm.Cond.methodLink "ConstraintText" (119 : Nat) ({ cls := "ConstraintText$Sheet", name := "saysApart", desc := "(II)Z" } : Jvm.MethodName)) ∈ gtb := tc_3 178 (by decide +kernel) rfl
theorem tw_732 : (Jvm.Cond.instanceMethod ({ cls := "ConstraintText$Sheet", name := "saysApart", desc := "(II)Z" } : Jvm.MethodName)) ∈ gtb := tc_3 179 (by decide +kernel) rfl
theorem tw_733 : (Jvm.Cond.selects "ConstraintText$Sheet" ({ cls := "ConstraintText$Sheet", name := "saysApart", desc := "(II)Z" } : Jvm.MethodName) ({ cls := "ConstraintText$Sheet", name := "saysApart", desc := "(II)Z" } : Jvm.MethodName)) ∈ gtb := tc_3 180 (by decide +kernel) rfl
theorem tw_734 : (Jvm.Cond.code ({ cls := "ConstraintText$Sheet", name := "saysApart", desc := "(II)Z" } : Jvm.MethodName) prog_5_method_18_code (6 : Nat) (Option.some Jvm.ClassFile.FieldType.boolean)) ∈ gtb := tc_3 181 (by decide +kernel) rfl
theorem tw_735 : (Jvm.Cond.methodLink "ConstraintText$Sheet" (94 : Nat) ({ cls := "ConstraintText$Sheet", name := "linkOf", desc := "(II)I" } : Jvm.MethodName)) ∈ gtb := tc_3 182 (by decide +kernel) rfl
theorem tw_736 : (Jvm.Cond.methodLink "ConstraintText" (122 : Nat) ({ cls := "ConstraintText$ClockTable", name := "distancePart", desc := "(III)J" } : Jvm.MethodName)) ∈ gtb := tc_3 183 (by decide +kernel) rfl
theorem tw_737 : (Jvm.Cond.instanceMethod ({ cls := "ConstraintText$ClockTable", name := "distancePart", desc := "(III)J" } : Jvm.MethodName)) ∈ gtb := tc_3 184 (by decide +kernel) rfl
theorem tw_738 : (Jvm.Cond.selects "ConstraintText$ClockTable" ({ cls := "ConstraintText$ClockTable", name := "distancePart", desc := "(III)J" } : Jvm.MethodName) ({ cls := "ConstraintText$ClockTable", name := "distancePart", desc := "(III)J" } : Jvm.MethodName)) ∈ gtb := tc_3 185 (by decide +kernel) rfl
theorem tw_739 : (Jvm.Cond.code ({ cls := "ConstraintText$ClockTable", name := "distancePart", desc := "(III)J" } : Jvm.MethodName) prog_2_method_12_code (14 : Nat) (Option.some Jvm.ClassFile.FieldType.long)) ∈ gtb := tc_3 186 (by decide +kernel) rfl
theorem tw_740 : (Jvm.Cond.methodLink "ConstraintText$ClockTable" (71 : Nat) ({ cls := "java/lang/Math", name := "floorMod", desc := "(JJ)J" } : Jvm.MethodName)) ∈ gtb := tc_3 187 (by decide +kernel) rfl
theorem tw_741 : (Jvm.Cond.static ({ cls := "java/lang/Math", name := "floorMod", desc := "(JJ)J" } : Jvm.MethodName)) ∈ gtb := tc_3 188 (by decide +kernel) rfl
theorem tw_742 : (Jvm.Cond.code ({ cls := "java/lang/Math", name := "floorMod", desc := "(JJ)J" } : Jvm.MethodName) prog_12_method_52_code (6 : Nat) (Option.some Jvm.ClassFile.FieldType.long)) ∈ gtb := tc_3 189 (by decide +kernel) rfl
theorem tw_743 : (Jvm.Cond.methodLink "ConstraintTextLaw" (86 : Nat) ({ cls := "ConstraintTextLaw", name := "exception", desc := "(LConstraintText;III[J)I" } : Jvm.MethodName)) ∈ gtb := tc_3 190 (by decide +kernel) rfl
theorem tw_744 : (Jvm.Cond.static ({ cls := "ConstraintTextLaw", name := "exception", desc := "(LConstraintText;III[J)I" } : Jvm.MethodName)) ∈ gtb := tc_3 191 (by decide +kernel) rfl
theorem tw_746 : (Jvm.Cond.methodLink "ConstraintTextLaw" (26 : Nat) ({ cls := "ConstraintText", name := "exception", desc := "(III)I" } : Jvm.MethodName)) ∈ gtb := tc_3 193 (by decide +kernel) rfl
theorem tw_747 : (Jvm.Cond.instanceMethod ({ cls := "ConstraintText", name := "exception", desc := "(III)I" } : Jvm.MethodName)) ∈ gtb := tc_3 194 (by decide +kernel) rfl
theorem tw_748 : (Jvm.Cond.selects "ConstraintText" ({ cls := "ConstraintText", name := "exception", desc := "(III)I" } : Jvm.MethodName) ({ cls := "ConstraintText", name := "exception", desc := "(III)I" } : Jvm.MethodName)) ∈ gtb := tc_3 195 (by decide +kernel) rfl
theorem tw_749 : (Jvm.Cond.code ({ cls := "ConstraintText", name := "exception", desc := "(III)I" } : Jvm.MethodName) prog_1_method_9_code (4 : Nat) (Option.some Jvm.ClassFile.FieldType.int)) ∈ gtb := tc_3 196 (by decide +kernel) rfl
theorem tw_750 : (Jvm.Cond.methodLink "ConstraintText" (125 : Nat) ({ cls := "ConstraintText", name := "isPinOrNone", desc := "(I)Z" } : Jvm.MethodName)) ∈ gtb := tc_3 197 (by decide +kernel) rfl
theorem tw_751 : (Jvm.Cond.static ({ cls := "ConstraintText", name := "isPinOrNone", desc := "(I)Z" } : Jvm.MethodName)) ∈ gtb := tc_3 198 (by decide +kernel) rfl
theorem tw_752 : (Jvm.Cond.code ({ cls := "ConstraintText", name := "isPinOrNone", desc := "(I)Z" } : Jvm.MethodName) prog_1_method_16_code (1 : Nat) (Option.some Jvm.ClassFile.FieldType.boolean)) ∈ gtb := tc_3 199 (by decide +kernel) rfl
theorem tw_753 : (Jvm.Cond.methodLink "ConstraintText" (128 : Nat) ({ cls := "ConstraintText$Sheet", name := "winner", desc := "(III)I" } : Jvm.MethodName)) ∈ gtb := tc_3 200 (by decide +kernel) rfl
theorem tw_754 : (Jvm.Cond.instanceMethod ({ cls := "ConstraintText$Sheet", name := "winner", desc := "(III)I" } : Jvm.MethodName)) ∈ gtb := tc_3 201 (by decide +kernel) rfl
theorem tw_755 : (Jvm.Cond.selects "ConstraintText$Sheet" ({ cls := "ConstraintText$Sheet", name := "winner", desc := "(III)I" } : Jvm.MethodName) ({ cls := "ConstraintText$Sheet", name := "winner", desc := "(III)I" } : Jvm.MethodName)) ∈ gtb := tc_3 202 (by decide +kernel) rfl
theorem tw_756 : (Jvm.Cond.code ({ cls := "ConstraintText$Sheet", name := "winner", desc := "(III)I" } : Jvm.MethodName) prog_5_method_19_code (10 : Nat) (Option.some Jvm.ClassFile.FieldType.int)) ∈ gtb := tc_3 203 (by decide +kernel) rfl
theorem tw_757 : (Jvm.Cond.methodLink "ConstraintText$Sheet" (97 : Nat) ({ cls := "ConstraintText$Sheet", name := "strengthOf", desc := "(I)I" } : Jvm.MethodName)) ∈ gtb := tc_3 204 (by decide +kernel) rfl
theorem tw_758 : (Jvm.Cond.static ({ cls := "ConstraintText$Sheet", name := "strengthOf", desc := "(I)I" } : Jvm.MethodName)) ∈ gtb := tc_3 205 (by decide +kernel) rfl
theorem tw_759 : (Jvm.Cond.code ({ cls := "ConstraintText$Sheet", name := "strengthOf", desc := "(I)I" } : Jvm.MethodName) prog_5_method_20_code (1 : Nat) (Option.some Jvm.ClassFile.FieldType.int)) ∈ gtb := tc_3 206 (by decide +kernel) rfl
theorem tw_760 : (Jvm.Cond.methodLink "ConstraintText$Sheet" (100 : Nat) ({ cls := "ConstraintText$Sheet", name := "admits", desc := "(III)Z" } : Jvm.MethodName)) ∈ gtb := tc_3 207 (by decide +kernel) rfl
theorem tw_762 : (Jvm.Cond.instanceMethod ({ cls := "ConstraintText$Sheet", name := "admits", desc := "(III)Z" } : Jvm.MethodName)) ∈ gtb := tc_3 209 (by decide +kernel) rfl
theorem tw_763 : (Jvm.Cond.code ({ cls := "ConstraintText$Sheet", name := "admits", desc := "(III)Z" } : Jvm.MethodName) prog_5_method_22_code (4 : Nat) (Option.some Jvm.ClassFile.FieldType.boolean)) ∈ gtb := tc_3 210 (by decide +kernel) rfl
theorem tw_764 : (Jvm.Cond.methodLink "ConstraintText$Sheet" (107 : Nat) ({ cls := "ConstraintText$Sheet", name := "matches", desc := "(III)Z" } : Jvm.MethodName)) ∈ gtb := tc_3 211 (by decide +kernel) rfl
theorem tw_766 : (Jvm.Cond.instanceMethod ({ cls := "ConstraintText$Sheet", name := "matches", desc := "(III)Z" } : Jvm.MethodName)) ∈ gtb := tc_3 213 (by decide +kernel) rfl
theorem tw_767 : (Jvm.Cond.code ({ cls := "ConstraintText$Sheet", name := "matches", desc := "(III)Z" } : Jvm.MethodName) prog_5_method_24_code (4 : Nat) (Option.some Jvm.ClassFile.FieldType.boolean)) ∈ gtb := tc_3 214 (by decide +kernel) rfl
theorem tw_768 : (Jvm.Cond.methodLink "ConstraintText$Sheet" (110 : Nat) ({ cls := "ConstraintText$Sheet", name := "hitsOf", desc := "(II)J" } : Jvm.MethodName)) ∈ gtb := tc_3 215 (by decide +kernel) rfl
theorem tw_769 : (Jvm.Cond.methodLink "ConstraintText$Sheet" (104 : Nat) ({ cls := "ConstraintText$Sheet", name := "weightOf", desc := "(I)I" } : Jvm.MethodName)) ∈ gtb := tc_3 216 (by decide +kernel) rfl
theorem tw_771 : (Jvm.Cond.instanceMethod ({ cls := "ConstraintText$Sheet", name := "weightOf", desc := "(I)I" } : Jvm.MethodName)) ∈ gtb := tc_3 218 (by decide +kernel) rfl
theorem tw_772 : (Jvm.Cond.code ({ cls := "ConstraintText$Sheet", name := "weightOf", desc := "(I)I" } : Jvm.MethodName) prog_5_method_21_code (2 : Nat) (Option.some Jvm.ClassFile.FieldType.int)) ∈ gtb := tc_3 219 (by decide +kernel) rfl
theorem tw_773 : (Jvm.Cond.methodLink "ConstraintTextLaw" (89 : Nat) ({ cls := "ConstraintTextLaw", name := "row", desc := "(LConstraintText;II[J)I" } : Jvm.MethodName)) ∈ gtb := tc_3 220 (by decide +kernel) rfl
theorem tw_774 : (Jvm.Cond.static ({ cls := "ConstraintTextLaw", name := "row", desc := "(LConstraintText;II[J)I" } : Jvm.MethodName)) ∈ gtb := tc_3 221 (by decide +kernel) rfl
theorem tw_776 : (Jvm.Cond.methodLink "ConstraintTextLaw" (30 : Nat) ({ cls := "ConstraintText", name := "row", desc := "(II)I" } : Jvm.MethodName)) ∈ gtb := tc_3 223 (by decide +kernel) rfl
theorem tw_777 : (Jvm.Cond.instanceMethod ({ cls := "ConstraintText", name := "row", desc := "(II)I" } : Jvm.MethodName)) ∈ gtb := tc_3 224 (by decide +kernel) rfl
theorem tw_778 : (Jvm.Cond.selects "ConstraintText" ({ cls := "ConstraintText", name := "row", desc := "(II)I" } : Jvm.MethodName) ({ cls := "ConstraintText", name := "row", desc := "(II)I" } : Jvm.MethodName)) ∈ gtb := tc_3 225 (by decide +kernel) rfl
theorem tw_779 : (Jvm.Cond.code ({ cls := "ConstraintText", name := "row", desc := "(II)I" } : Jvm.MethodName) prog_1_method_10_code (3 : Nat) (Option.some Jvm.ClassFile.FieldType.int)) ∈ gtb := tc_3 226 (by decide +kernel) rfl
theorem tw_781 : (Jvm.Cond.methodLink "ConstraintTextLaw" (92 : Nat) ({ cls := "ConstraintTextLaw", name := "load", desc := "(LConstraintText;II[J)I" } : Jvm.MethodName)) ∈ gtb := tc_3 228 (by decide +kernel) rfl
theorem tw_782 : (Jvm.Cond.static ({ cls := "ConstraintTextLaw", name := "load", desc := "(LConstraintText;II[J)I" } : Jvm.MethodName)) ∈ gtb := tc_3 229 (by decide +kernel) rfl
theorem tw_784 : (Jvm.Cond.methodLink "ConstraintTextLaw" (33 : Nat) ({ cls := "ConstraintText", name := "load", desc := "(II)I" } : Jvm.MethodName)) ∈ gtb := tc_3 231 (by decide +kernel) rfl
theorem tw_785 : (Jvm.Cond.instanceMethod ({ cls := "ConstraintText", name := "load", desc := "(II)I" } : Jvm.MethodName)) ∈ gtb := tc_3 232 (by decide +kernel) rfl
theorem tw_786 : (Jvm.Cond.selects "ConstraintText" ({ cls := "ConstraintText", name := "load", desc := "(II)I" } : Jvm.MethodName) ({ cls := "ConstraintText", name := "load", desc := "(II)I" } : Jvm.MethodName)) ∈ gtb := tc_3 233 (by decide +kernel) rfl
theorem tw_787 : (Jvm.Cond.code ({ cls := "ConstraintText", name := "load", desc := "(II)I" } : Jvm.MethodName) prog_1_method_11_code (3 : Nat) (Option.some Jvm.ClassFile.FieldType.int)) ∈ gtb := tc_3 234 (by decide +kernel) rfl
theorem tw_789 : (Jvm.Cond.methodLink "ConstraintText" (142 : Nat) ({ cls := "ConstraintText$Sheet", name := "latestValue", desc := "(II)I" } : Jvm.MethodName)) ∈ gtb := tc_3 236 (by decide +kernel) rfl
theorem tw_790 : (Jvm.Cond.instanceMethod ({ cls := "ConstraintText$Sheet", name := "latestValue", desc := "(II)I" } : Jvm.MethodName)) ∈ gtb := tc_3 237 (by decide +kernel) rfl
theorem tw_791 : (Jvm.Cond.selects "ConstraintText$Sheet" ({ cls := "ConstraintText$Sheet", name := "latestValue", desc := "(II)I" } : Jvm.MethodName) ({ cls := "ConstraintText$Sheet", name := "latestValue", desc := "(II)I" } : Jvm.MethodName)) ∈ gtb := tc_3 238 (by decide +kernel) rfl
theorem tw_792 : (Jvm.Cond.code ({ cls := "ConstraintText$Sheet", name := "latestValue", desc := "(II)I" } : Jvm.MethodName) prog_5_method_25_code (4 : Nat) (Option.some Jvm.ClassFile.FieldType.int)) ∈ gtb := tc_3 239 (by decide +kernel) rfl
theorem tw_793 : (Jvm.Cond.methodLink "ConstraintTextLaw" (95 : Nat) ({ cls := "ConstraintTextLaw", name := "unmatched", desc := "(LConstraintText;I[J)I" } : Jvm.MethodName)) ∈ gtb := tc_4 0 (by decide +kernel) rfl
theorem tw_794 : (Jvm.Cond.static ({ cls := "ConstraintTextLaw", name := "unmatched", desc := "(LConstraintText;I[J)I" } : Jvm.MethodName)) ∈ gtb := tc_4 1 (by decide +kernel) rfl
theorem tw_796 : (Jvm.Cond.methodLink "ConstraintTextLaw" (36 : Nat) ({ cls := "ConstraintText", name := "unmatched", desc := "(I)I" } : Jvm.MethodName)) ∈ gtb := tc_4 3 (by decide +kernel) rfl
theorem tw_797 : (Jvm.Cond.instanceMethod ({ cls := "ConstraintText", name := "unmatched", desc := "(I)I" } : Jvm.MethodName)) ∈ gtb := tc_4 4 (by decide +kernel) rfl
theorem tw_798 : (Jvm.Cond.selects "ConstraintText" ({ cls := "ConstraintText", name := "unmatched", desc := "(I)I" } : Jvm.MethodName) ({ cls := "ConstraintText", name := "unmatched", desc := "(I)I" } : Jvm.MethodName)) ∈ gtb := tc_4 5 (by decide +kernel) rfl
theorem tw_799 : (Jvm.Cond.code ({ cls := "ConstraintText", name := "unmatched", desc := "(I)I" } : Jvm.MethodName) prog_1_method_12_code (2 : Nat) (Option.some Jvm.ClassFile.FieldType.int)) ∈ gtb := tc_4 6 (by decide +kernel) rfl
theorem tw_801 : (Jvm.Cond.methodLink "ConstraintText" (147 : Nat) ({ cls := "ConstraintText$Sheet", name := "idleRow", desc := "(I)I" } : Jvm.MethodName)) ∈ gtb := tc_4 8 (by decide +kernel) rfl
theorem tw_802 : (Jvm.Cond.instanceMethod ({ cls := "ConstraintText$Sheet", name := "idleRow", desc := "(I)I" } : Jvm.MethodName)) ∈ gtb := tc_4 9 (by decide +kernel) rfl
theorem tw_803 : (Jvm.Cond.selects "ConstraintText$Sheet" ({ cls := "ConstraintText$Sheet", name := "idleRow", desc := "(I)I" } : Jvm.MethodName) ({ cls := "ConstraintText$Sheet", name := "idleRow", desc := "(I)I" } : Jvm.MethodName)) ∈ gtb := tc_4 10 (by decide +kernel) rfl
theorem tw_804 : (Jvm.Cond.code ({ cls := "ConstraintText$Sheet", name := "idleRow", desc := "(I)I" } : Jvm.MethodName) prog_5_method_26_code (4 : Nat) (Option.some Jvm.ClassFile.FieldType.int)) ∈ gtb := tc_4 11 (by decide +kernel) rfl
theorem tw_805 : (Jvm.Cond.methodLink "ConstraintText$Sheet" (114 : Nat) ({ cls := "ConstraintText$Sheet", name := "isIdle", desc := "(I)Z" } : Jvm.MethodName)) ∈ gtb := tc_4 12 (by decide +kernel) rfl
theorem tw_807 : (Jvm.Cond.instanceMethod ({ cls := "ConstraintText$Sheet", name := "isIdle", desc := "(I)Z" } : Jvm.MethodName)) ∈ gtb := tc_4 14 (by decide +kernel) rfl
theorem tw_808 : (Jvm.Cond.code ({ cls := "ConstraintText$Sheet", name := "isIdle", desc := "(I)Z" } : Jvm.MethodName) prog_5_method_27_code (3 : Nat) (Option.some Jvm.ClassFile.FieldType.boolean)) ∈ gtb := tc_4 15 (by decide +kernel) rfl
theorem tw_809 : (Jvm.Cond.methodLink "ConstraintTextLaw" (99 : Nat) ({ cls := "ConstraintTextLaw", name := "clash", desc := "(LConstraintText;II[J)I" } : Jvm.MethodName)) ∈ gtb := tc_4 16 (by decide +kernel) rfl
theorem tw_810 : (Jvm.Cond.static ({ cls := "ConstraintTextLaw", name := "clash", desc := "(LConstraintText;II[J)I" } : Jvm.MethodName)) ∈ gtb := tc_4 17 (by decide +kernel) rfl
theorem tw_812 : (Jvm.Cond.methodLink "ConstraintTextLaw" (40 : Nat) ({ cls := "ConstraintText", name := "clash", desc := "(II)I" } : Jvm.MethodName)) ∈ gtb := tc_4 19 (by decide +kernel) rfl
theorem tw_813 : (Jvm.Cond.instanceMethod ({ cls := "ConstraintText", name := "clash", desc := "(II)I" } : Jvm.MethodName)) ∈ gtb := tc_4 20 (by decide +kernel) rfl
theorem tw_814 : (Jvm.Cond.selects "ConstraintText" ({ cls := "ConstraintText", name := "clash", desc := "(II)I" } : Jvm.MethodName) ({ cls := "ConstraintText", name := "clash", desc := "(II)I" } : Jvm.MethodName)) ∈ gtb := tc_4 21 (by decide +kernel) rfl
theorem tw_815 : (Jvm.Cond.code ({ cls := "ConstraintText", name := "clash", desc := "(II)I" } : Jvm.MethodName) prog_1_method_13_code (3 : Nat) (Option.some Jvm.ClassFile.FieldType.int)) ∈ gtb := tc_4 22 (by decide +kernel) rfl
theorem tw_817 : (Jvm.Cond.methodLink "ConstraintText" (153 : Nat) ({ cls := "ConstraintText$Sheet", name := "clashingRow", desc := "(II)I" } : Jvm.MethodName)) ∈ gtb := tc_4 24 (by decide +kernel) rfl
theorem tw_818 : (Jvm.Cond.instanceMethod ({ cls := "ConstraintText$Sheet", name := "clashingRow", desc := "(II)I" } : Jvm.MethodName)) ∈ gtb := tc_4 25 (by decide +kernel) rfl
theorem tw_819 : (Jvm.Cond.selects "ConstraintText$Sheet" ({ cls := "ConstraintText$Sheet", name := "clashingRow", desc := "(II)I" } : Jvm.MethodName) ({ cls := "ConstraintText$Sheet", name := "clashingRow", desc := "(II)I" } : Jvm.MethodName)) ∈ gtb := tc_4 26 (by decide +kernel) rfl
theorem tw_820 : (Jvm.Cond.code ({ cls := "ConstraintText$Sheet", name := "clashingRow", desc := "(II)I" } : Jvm.MethodName) prog_5_method_28_code (6 : Nat) (Option.some Jvm.ClassFile.FieldType.int)) ∈ gtb := tc_4 27 (by decide +kernel) rfl
theorem tw_821 : (Jvm.Cond.methodLink "ConstraintText$Sheet" (118 : Nat) ({ cls := "ConstraintText$Sheet", name := "haveClash", desc := "(II)Z" } : Jvm.MethodName)) ∈ gtb := tc_4 28 (by decide +kernel) rfl
theorem tw_823 : (Jvm.Cond.instanceMethod ({ cls := "ConstraintText$Sheet", name := "haveClash", desc := "(II)Z" } : Jvm.MethodName)) ∈ gtb := tc_4 30 (by decide +kernel) rfl
theorem tw_824 : (Jvm.Cond.code ({ cls := "ConstraintText$Sheet", name := "haveClash", desc := "(II)Z" } : Jvm.MethodName) prog_5_method_29_code (7 : Nat) (Option.some Jvm.ClassFile.FieldType.boolean)) ∈ gtb := tc_4 31 (by decide +kernel) rfl
theorem tw_826 : (Jvm.Cond.static ({ cls := "ConstraintText", name := "makesClock", desc := "(I)Z" } : Jvm.MethodName)) ∈ gtb := tc_4 33 (by decide +kernel) rfl
theorem tw_827 : (Jvm.Cond.code ({ cls := "ConstraintText", name := "makesClock", desc := "(I)Z" } : Jvm.MethodName) prog_1_method_21_code (1 : Nat) (Option.some Jvm.ClassFile.FieldType.boolean)) ∈ gtb := tc_4 34 (by decide +kernel) rfl
theorem tw_828 : (Jvm.Cond.methodLink "ConstraintTextLaw" (102 : Nat) ({ cls := "ConstraintTextLaw", name := "write", desc := "(LConstraintText;I[J)I" } : Jvm.MethodName)) ∈ gtb := tc_4 35 (by decide +kernel) rfl
theorem tw_829 : (Jvm.Cond.static ({ cls := "ConstraintTextLaw", name := "write", desc := "(LConstraintText;I[J)I" } : Jvm.MethodName)) ∈ gtb := tc_4 36 (by decide +kernel) rfl
theorem tw_831 : (Jvm.Cond.methodLink "ConstraintTextLaw" (43 : Nat) ({ cls := "ConstraintText", name := "write", desc := "(I)I" } : Jvm.MethodName)) ∈ gtb := tc_4 38 (by decide +kernel) rfl
theorem tw_832 : (Jvm.Cond.instanceMethod ({ cls := "ConstraintText", name := "write", desc := "(I)I" } : Jvm.MethodName)) ∈ gtb := tc_4 39 (by decide +kernel) rfl
theorem tw_833 : (Jvm.Cond.selects "ConstraintText" ({ cls := "ConstraintText", name := "write", desc := "(I)I" } : Jvm.MethodName) ({ cls := "ConstraintText", name := "write", desc := "(I)I" } : Jvm.MethodName)) ∈ gtb := tc_4 40 (by decide +kernel) rfl
theorem tw_834 : (Jvm.Cond.code ({ cls := "ConstraintText", name := "write", desc := "(I)I" } : Jvm.MethodName) prog_1_method_14_code (2 : Nat) (Option.some Jvm.ClassFile.FieldType.int)) ∈ gtb := tc_4 41 (by decide +kernel) rfl
theorem tw_835 : (Jvm.Cond.methodLink "ConstraintText" (159 : Nat) ({ cls := "ConstraintText$Sheet", name := "printedAt", desc := "(I)I" } : Jvm.MethodName)) ∈ gtb := tc_4 42 (by decide +kernel) rfl
theorem tw_836 : (Jvm.Cond.methodLink "ConstraintTextLaw" (105 : Nat) ({ cls := "ConstraintTextLaw", name := "count", desc := "(LConstraintText;I[J)I" } : Jvm.MethodName)) ∈ gtb := tc_4 43 (by decide +kernel) rfl
theorem tw_837 : (Jvm.Cond.static ({ cls := "ConstraintTextLaw", name := "count", desc := "(LConstraintText;I[J)I" } : Jvm.MethodName)) ∈ gtb := tc_4 44 (by decide +kernel) rfl
theorem tw_839 : (Jvm.Cond.methodLink "ConstraintTextLaw" (46 : Nat) ({ cls := "ConstraintText", name := "count", desc := "(I)I" } : Jvm.MethodName)) ∈ gtb := tc_4 46 (by decide +kernel) rfl
theorem tw_840 : (Jvm.Cond.instanceMethod ({ cls := "ConstraintText", name := "count", desc := "(I)I" } : Jvm.MethodName)) ∈ gtb := tc_4 47 (by decide +kernel) rfl
theorem tw_841 : (Jvm.Cond.selects "ConstraintText" ({ cls := "ConstraintText", name := "count", desc := "(I)I" } : Jvm.MethodName) ({ cls := "ConstraintText", name := "count", desc := "(I)I" } : Jvm.MethodName)) ∈ gtb := tc_4 48 (by decide +kernel) rfl
theorem tw_842 : (Jvm.Cond.code ({ cls := "ConstraintText", name := "count", desc := "(I)I" } : Jvm.MethodName) prog_1_method_15_code (2 : Nat) (Option.some Jvm.ClassFile.FieldType.int)) ∈ gtb := tc_4 49 (by decide +kernel) rfl
theorem tw_844 : (Jvm.Cond.classLink "ConstraintTextLaw" (50 : Nat) "ConstraintTextModel") ∈ gtb := tc_4 51 (by decide +kernel) rfl
theorem tw_845 : (Jvm.Cond.instantiable "ConstraintTextModel" (33 : Nat)) ∈ gtb := tc_4 52 (by decide +kernel) rfl
theorem tw_846 : (Jvm.Cond.methodLink "ConstraintTextLaw" (52 : Nat) ({ cls := "ConstraintTextModel", name := "<init>", desc := "()V" } : Jvm.MethodName)) ∈ gtb := tc_4 53 (by decide +kernel) rfl
theorem tw_847 : (Jvm.Cond.instanceMethod ({ cls := "ConstraintTextModel", name := "<init>", desc := "()V" } : Jvm.MethodName)) ∈ gtb := tc_4 54 (by decide +kernel) rfl
theorem tw_848 : (Jvm.Cond.code ({ cls := "ConstraintTextModel", name := "<init>", desc := "()V" } : Jvm.MethodName) prog_8_method_1_code (1 : Nat) (Option.none : Option Jvm.ClassFile.FieldType)) ∈ gtb := tc_4 55 (by decide +kernel) rfl
theorem tw_849 : (Jvm.Cond.methodLink "ConstraintTextModel" (1 : Nat) ({ cls := "java/lang/Object", name := "<init>", desc := "()V" } : Jvm.MethodName)) ∈ gtb := tc_4 56 (by decide +kernel) rfl
theorem tw_850 : (Jvm.Cond.fieldLink "ConstraintTextModel" (75 : Nat) "ConstraintTextModel" "code" "I") ∈ gtb := tc_4 57 (by decide +kernel) rfl
theorem tw_851 : (Jvm.Cond.fieldLink "ConstraintTextModel" (7 : Nat) "ConstraintTextModel" "letters" "[I") ∈ gtb := tc_4 58 (by decide +kernel) rfl
theorem tw_852 : (Jvm.Cond.fieldLink "ConstraintTextModel" (13 : Nat) "ConstraintTextModel" "sizes" "[I") ∈ gtb := tc_4 59 (by decide +kernel) rfl
theorem tw_853 : (Jvm.Cond.fieldLink "ConstraintTextModel" (16 : Nat) "ConstraintTextModel" "tape" "[I") ∈ gtb := tc_4 60 (by decide +kernel) rfl
theorem tw_854 : (Jvm.Cond.fieldLink "ConstraintTextModel" (86 : Nat) "ConstraintTextModel" "length" "I") ∈ gtb := tc_4 61 (by decide +kernel) rfl
theorem tw_855 : (Jvm.Cond.fieldLink "ConstraintTextModel" (205 : Nat) "ConstraintTextModel" "rows" "I") ∈ gtb := tc_4 62 (by decide +kernel) rfl
theorem tw_856 : (Jvm.Cond.fieldLink "ConstraintTextModel" (19 : Nat) "ConstraintTextModel" "sort" "[I") ∈ gtb := tc_4 63 (by decide +kernel) rfl
theorem tw_857 : (Jvm.Cond.fieldLink "ConstraintTextModel" (22 : Nat) "ConstraintTextModel" "nameC" "[J") ∈ gtb := tc_4 64 (by decide +kernel) rfl
theorem tw_858 : (Jvm.Cond.fieldLink "ConstraintTextModel" (26 : Nat) "ConstraintTextModel" "nameD" "[J") ∈ gtb := tc_4 65 (by decide +kernel) rfl
theorem tw_859 : (Jvm.Cond.fieldLink "ConstraintTextModel" (29 : Nat) "ConstraintTextModel" "one" "[I") ∈ gtb := tc_4 66 (by decide +kernel) rfl
theorem tw_860 : (Jvm.Cond.fieldLink "ConstraintTextModel" (32 : Nat) "ConstraintTextModel" "two" "[I") ∈ gtb := tc_4 67 (by decide +kernel) rfl
theorem tw_861 : (Jvm.Cond.fieldLink "ConstraintTextModel" (35 : Nat) "ConstraintTextModel" "three" "[I") ∈ gtb := tc_4 68 (by decide +kernel) rfl
theorem tw_862 : (Jvm.Cond.fieldLink "ConstraintTextModel" (38 : Nat) "ConstraintTextModel" "pattern" "[I") ∈ gtb := tc_4 69 (by decide +kernel) rfl
theorem tw_863 : (Jvm.Cond.fieldLink "ConstraintTextModel" (41 : Nat) "ConstraintTextModel" "patternSize" "[I") ∈ gtb := tc_4 70 (by decide +kernel) rfl
theorem tw_864 : (Jvm.Cond.fieldLink "ConstraintTextModel" (208 : Nat) "ConstraintTextModel" "clocks" "I") ∈ gtb := tc_4 71 (by decide +kernel) rfl
theorem tw_865 : (Jvm.Cond.fieldLink "ConstraintTextModel" (44 : Nat) "ConstraintTextModel" "clockRow" "[I") ∈ gtb := tc_4 72 (by decide +kernel) rfl
theorem tw_866 : (Jvm.Cond.fieldLink "ConstraintTextModel" (47 : Nat) "ConstraintTextModel" "from" "[I") ∈ gtb := tc_4 73 (by decide +kernel) rfl
theorem tw_867 : (Jvm.Cond.fieldLink "ConstraintTextModel" (50 : Nat) "ConstraintTextModel" "period" "[J") ∈ gtb := tc_4 74 (by decide +kernel) rfl
theorem tw_868 : (Jvm.Cond.fieldLink "ConstraintTextModel" (53 : Nat) "ConstraintTextModel" "rise" "[J") ∈ gtb := tc_4 75 (by decide +kernel) rfl
theorem tw_869 : (Jvm.Cond.fieldLink "ConstraintTextModel" (56 : Nat) "ConstraintTextModel" "fall" "[J") ∈ gtb := tc_4 76 (by decide +kernel) rfl
theorem tw_870 : (Jvm.Cond.fieldLink "ConstraintTextModel" (59 : Nat) "ConstraintTextModel" "under" "[J") ∈ gtb := tc_4 77 (by decide +kernel) rfl
theorem tw_871 : (Jvm.Cond.fieldLink "ConstraintTextModel" (62 : Nat) "ConstraintTextModel" "great" "[Z") ∈ gtb := tc_4 78 (by decide +kernel) rfl
theorem tw_872 : (Jvm.Cond.fieldLink "ConstraintTextModel" (92 : Nat) "ConstraintTextModel" "begin" "I") ∈ gtb := tc_4 79 (by decide +kernel) rfl
theorem tw_873 : (Jvm.Cond.fieldLink "ConstraintTextModel" (89 : Nat) "ConstraintTextModel" "end" "I") ∈ gtb := tc_4 80 (by decide +kernel) rfl
theorem tw_874 : (Jvm.Cond.fieldLink "ConstraintTextModel" (95 : Nat) "ConstraintTextModel" "right" "Z") ∈ gtb := tc_4 81 (by decide +kernel) rfl
theorem tw_875 : (Jvm.Cond.fieldLink "ConstraintTextModel" (133 : Nat) "ConstraintTextModel" "newRows" "I") ∈ gtb := tc_4 82 (by decide +kernel) rfl
theorem tw_876 : (Jvm.Cond.fieldLink "ConstraintTextModel" (126 : Nat) "ConstraintTextModel" "newClocks" "I") ∈ gtb := tc_4 83 (by decide +kernel) rfl
theorem tw_877 : (Jvm.Cond.fieldLink "ConstraintTextModel" (66 : Nat) "ConstraintTextModel" "placeC" "[I") ∈ gtb := tc_4 84 (by decide +kernel) rfl
theorem tw_878 : (Jvm.Cond.fieldLink "ConstraintTextModel" (69 : Nat) "ConstraintTextModel" "placeD" "[I") ∈ gtb := tc_4 85 (by decide +kernel) rfl
theorem tw_879 : (Jvm.Cond.fieldLink "ConstraintTextModel" (72 : Nat) "ConstraintTextModel" "reads" "[Z") ∈ gtb := tc_4 86 (by decide +kernel) rfl
theorem tw_880 : (Jvm.Cond.fieldLink "ConstraintTextModel" (247 : Nat) "ConstraintTextModel" "wanted" "I") ∈ gtb := tc_4 87 (by decide +kernel) rfl
theorem tw_881 : (Jvm.Cond.fieldLink "ConstraintTextModel" (244 : Nat) "ConstraintTextModel" "printed" "I") ∈ gtb := tc_4 88 (by decide +kernel) rfl
theorem tw_882 : (Jvm.Cond.fieldLink "ConstraintTextModel" (250 : Nat) "ConstraintTextModel" "told" "I") ∈ gtb := tc_4 89 (by decide +kernel) rfl
theorem tw_883 : (Jvm.Cond.lays "ConstraintTextModel" "ConstraintTextModel" "code" "I") ∈ gtb := tc_4 90 (by decide +kernel) rfl
theorem tw_885 : (Jvm.Cond.laysFinal "ConstraintTextModel" "ConstraintTextModel" "letters" "[I") ∈ gtb := tc_4 92 (by decide +kernel) rfl
theorem tw_887 : (Jvm.Cond.laysFinal "ConstraintTextModel" "ConstraintTextModel" "sizes" "[I") ∈ gtb := tc_4 94 (by decide +kernel) rfl
theorem tw_889 : (Jvm.Cond.laysFinal "ConstraintTextModel" "ConstraintTextModel" "tape" "[I") ∈ gtb := tc_4 96 (by decide +kernel) rfl
theorem tw_891 : (Jvm.Cond.lays "ConstraintTextModel" "ConstraintTextModel" "length" "I") ∈ gtb := tc_4 98 (by decide +kernel) rfl
theorem tw_893 : (Jvm.Cond.lays "ConstraintTextModel" "ConstraintTextModel" "rows" "I") ∈ gtb := tc_4 100 (by decide +kernel) rfl
theorem tw_895 : (Jvm.Cond.laysFinal "ConstraintTextModel" "ConstraintTextModel" "sort" "[I") ∈ gtb := tc_4 102 (by decide +kernel) rfl
theorem tw_897 : (Jvm.Cond.laysFinal "ConstraintTextModel" "ConstraintTextModel" "nameC" "[J") ∈ gtb := tc_4 104 (by decide +kernel) rfl
theorem tw_899 : (Jvm.Cond.laysFinal "ConstraintTextModel" "ConstraintTextModel" "nameD" "[J") ∈ gtb := tc_4 106 (by decide +kernel) rfl
theorem tw_901 : (Jvm.Cond.laysFinal "ConstraintTextModel" "ConstraintTextModel" "one" "[I") ∈ gtb := tc_4 108 (by decide +kernel) rfl
theorem tw_903 : (Jvm.Cond.laysFinal "ConstraintTextModel" "ConstraintTextModel" "two" "[I") ∈ gtb := tc_4 110 (by decide +kernel) rfl
theorem tw_905 : (Jvm.Cond.laysFinal "ConstraintTextModel" "ConstraintTextModel" "three" "[I") ∈ gtb := tc_4 112 (by decide +kernel) rfl
theorem tw_907 : (Jvm.Cond.laysFinal "ConstraintTextModel" "ConstraintTextModel" "pattern" "[I") ∈ gtb := tc_4 114 (by decide +kernel) rfl
theorem tw_909 : (Jvm.Cond.laysFinal "ConstraintTextModel" "ConstraintTextModel" "patternSize" "[I") ∈ gtb := tc_4 116 (by decide +kernel) rfl
theorem tw_911 : (Jvm.Cond.lays "ConstraintTextModel" "ConstraintTextModel" "clocks" "I") ∈ gtb := tc_4 118 (by decide +kernel) rfl
theorem tw_913 : (Jvm.Cond.laysFinal "ConstraintTextModel" "ConstraintTextModel" "clockRow" "[I") ∈ gtb := tc_4 120 (by decide +kernel) rfl
theorem tw_915 : (Jvm.Cond.laysFinal "ConstraintTextModel" "ConstraintTextModel" "from" "[I") ∈ gtb := tc_4 122 (by decide +kernel) rfl
theorem tw_917 : (Jvm.Cond.laysFinal "ConstraintTextModel" "ConstraintTextModel" "period" "[J") ∈ gtb := tc_4 124 (by decide +kernel) rfl
theorem tw_919 : (Jvm.Cond.laysFinal "ConstraintTextModel" "ConstraintTextModel" "rise" "[J") ∈ gtb := tc_4 126 (by decide +kernel) rfl
theorem tw_921 : (Jvm.Cond.laysFinal "ConstraintTextModel" "ConstraintTextModel" "fall" "[J") ∈ gtb := tc_4 128 (by decide +kernel) rfl
theorem tw_923 : (Jvm.Cond.laysFinal "ConstraintTextModel" "ConstraintTextModel" "under" "[J") ∈ gtb := tc_4 130 (by decide +kernel) rfl
theorem tw_925 : (Jvm.Cond.laysFinal "ConstraintTextModel" "ConstraintTextModel" "great" "[Z") ∈ gtb := tc_4 132 (by decide +kernel) rfl
theorem tw_927 : (Jvm.Cond.lays "ConstraintTextModel" "ConstraintTextModel" "begin" "I") ∈ gtb := tc_4 134 (by decide +kernel) rfl
theorem tw_929 : (Jvm.Cond.lays "ConstraintTextModel" "ConstraintTextModel" "end" "I") ∈ gtb := tc_4 136 (by decide +kernel) rfl
theorem tw_931 : (Jvm.Cond.lays "ConstraintTextModel" "ConstraintTextModel" "right" "Z") ∈ gtb := tc_4 138 (by decide +kernel) rfl
theorem tw_933 : (Jvm.Cond.lays "ConstraintTextModel" "ConstraintTextModel" "newRows" "I") ∈ gtb := tc_4 140 (by decide +kernel) rfl
theorem tw_935 : (Jvm.Cond.lays "ConstraintTextModel" "ConstraintTextModel" "newClocks" "I") ∈ gtb := tc_4 142 (by decide +kernel) rfl
theorem tw_937 : (Jvm.Cond.laysFinal "ConstraintTextModel" "ConstraintTextModel" "placeC" "[I") ∈ gtb := tc_4 144 (by decide +kernel) rfl
theorem tw_939 : (Jvm.Cond.laysFinal "ConstraintTextModel" "ConstraintTextModel" "placeD" "[I") ∈ gtb := tc_4 146 (by decide +kernel) rfl
theorem tw_941 : (Jvm.Cond.laysFinal "ConstraintTextModel" "ConstraintTextModel" "reads" "[Z") ∈ gtb := tc_4 148 (by decide +kernel) rfl
theorem tw_943 : (Jvm.Cond.lays "ConstraintTextModel" "ConstraintTextModel" "wanted" "I") ∈ gtb := tc_4 150 (by decide +kernel) rfl
theorem tw_945 : (Jvm.Cond.lays "ConstraintTextModel" "ConstraintTextModel" "printed" "I") ∈ gtb := tc_4 152 (by decide +kernel) rfl
theorem tw_947 : (Jvm.Cond.lays "ConstraintTextModel" "ConstraintTextModel" "told" "I") ∈ gtb := tc_4 154 (by decide +kernel) rfl
theorem tw_949 : (Jvm.Cond.superclass "ConstraintTextModel" "java/lang/Object") ∈ gtb := tc_4 156 (by decide +kernel) rfl
theorem tw_950 : (Jvm.Cond.methodLink "ConstraintTextLaw" (68 : Nat) ({ cls := "ConstraintTextModel", name := "thrown", desc := "()I" } : Jvm.MethodName)) ∈ gtb := tc_4 157 (by decide +kernel) rfl
theorem tw_951 : (Jvm.Cond.instanceMethod ({ cls := "ConstraintTextModel", name := "thrown", desc := "()I" } : Jvm.MethodName)) ∈ gtb := tc_4 158 (by decide +kernel) rfl
theorem tw_952 : (Jvm.Cond.selects "ConstraintTextModel" ({ cls := "ConstraintTextModel", name := "thrown", desc := "()I" } : Jvm.MethodName) ({ cls := "ConstraintTextModel", name := "thrown", desc := "()I" } : Jvm.MethodName)) ∈ gtb := tc_4 159 (by decide +kernel) rfl
theorem tw_953 : (Jvm.Cond.code ({ cls := "ConstraintTextModel", name := "thrown", desc := "()I" } : Jvm.MethodName) prog_8_method_2_code (1 : Nat) (Option.some Jvm.ClassFile.FieldType.int)) ∈ gtb := tc_4 160 (by decide +kernel) rfl
theorem tw_954 : (Jvm.Cond.methodLink "ConstraintTextLaw" (67 : Nat) ({ cls := "ConstraintTextModel", name := "name", desc := "(II)Z" } : Jvm.MethodName)) ∈ gtb := tc_4 161 (by decide +kernel) rfl
theorem tw_955 : (Jvm.Cond.instanceMethod ({ cls := "ConstraintTextModel", name := "name", desc := "(II)Z" } : Jvm.MethodName)) ∈ gtb := tc_4 162 (by decide +kernel) rfl
theorem tw_956 : (Jvm.Cond.selects "ConstraintTextModel" ({ cls := "ConstraintTextModel", name := "name", desc := "(II)Z" } : Jvm.MethodName) ({ cls := "ConstraintTextModel", name := "name", desc := "(II)Z" } : Jvm.MethodName)) ∈ gtb := tc_4 163 (by decide +kernel) rfl
theorem tw_957 : (Jvm.Cond.code ({ cls := "ConstraintTextModel", name := "name", desc := "(II)Z" } : Jvm.MethodName) prog_8_method_4_code (3 : Nat) (Option.some Jvm.ClassFile.FieldType.boolean)) ∈ gtb := tc_4 164 (by decide +kernel) rfl
theorem tw_958 : (Jvm.Cond.methodLink "ConstraintTextModel" (79 : Nat) ({ cls := "ConstraintTextModel", name := "isName", desc := "(I)Z" } : Jvm.MethodName)) ∈ gtb := tc_4 165 (by decide +kernel) rfl
theorem tw_959 : (Jvm.Cond.static ({ cls := "ConstraintTextModel", name := "isName", desc := "(I)Z" } : Jvm.MethodName)) ∈ gtb := tc_4 166 (by decide +kernel) rfl
theorem tw_960 : (Jvm.Cond.code ({ cls := "ConstraintTextModel", name := "isName", desc := "(I)Z" } : Jvm.MethodName) prog_8_method_3_code (1 : Nat) (Option.some Jvm.ClassFile.FieldType.boolean)) ∈ gtb := tc_4 167 (by decide +kernel) rfl
theorem tw_961 : (Jvm.Cond.methodLink "ConstraintTextLaw" (57 : Nat) ({ cls := "ConstraintTextModel", name := "unit", desc := "(I)Z" } : Jvm.MethodName)) ∈ gtb := tc_4 168 (by decide +kernel) rfl
theorem tw_962 : (Jvm.Cond.instanceMethod ({ cls := "ConstraintTextModel", name := "unit", desc := "(I)Z" } : Jvm.MethodName)) ∈ gtb := tc_4 169 (by decide +kernel) rfl
theorem tw_963 : (Jvm.Cond.selects "ConstraintTextModel" ({ cls := "ConstraintTextModel", name := "unit", desc := "(I)Z" } : Jvm.MethodName) ({ cls := "ConstraintTextModel", name := "unit", desc := "(I)Z" } : Jvm.MethodName)) ∈ gtb := tc_4 170 (by decide +kernel) rfl
theorem tw_964 : (Jvm.Cond.code ({ cls := "ConstraintTextModel", name := "unit", desc := "(I)Z" } : Jvm.MethodName) prog_8_method_6_code (2 : Nat) (Option.some Jvm.ClassFile.FieldType.boolean)) ∈ gtb := tc_4 171 (by decide +kernel) rfl
theorem tw_965 : (Jvm.Cond.methodLink "ConstraintTextModel" (83 : Nat) ({ cls := "ConstraintTextModel", name := "isCharacter", desc := "(I)Z" } : Jvm.MethodName)) ∈ gtb := tc_4 172 (by decide +kernel) rfl
theorem tw_966 : (Jvm.Cond.static ({ cls := "ConstraintTextModel", name := "isCharacter", desc := "(I)Z" } : Jvm.MethodName)) ∈ gtb := tc_4 173 (by decide +kernel) rfl
theorem tw_967 : (Jvm.Cond.code ({ cls := "ConstraintTextModel", name := "isCharacter", desc := "(I)Z" } : Jvm.MethodName) prog_8_method_5_code (1 : Nat) (Option.some Jvm.ClassFile.FieldType.boolean)) ∈ gtb := tc_4 174 (by decide +kernel) rfl
theorem tw_968 : (Jvm.Cond.methodLink "ConstraintTextLaw" (61 : Nat) ({ cls := "ConstraintTextModel", name := "units", desc := "(I)Z" } : Jvm.MethodName)) ∈ gtb := tc_4 175 (by decide +kernel) rfl
theorem tw_969 : (Jvm.Cond.instanceMethod ({ cls := "ConstraintTextModel", name := "units", desc := "(I)Z" } : Jvm.MethodName)) ∈ gtb := tc_4 176 (by decide +kernel) rfl
theorem tw_970 : (Jvm.Cond.selects "ConstraintTextModel" ({ cls := "ConstraintTextModel", name := "units", desc := "(I)Z" } : Jvm.MethodName) ({ cls := "ConstraintTextModel", name := "units", desc := "(I)Z" } : Jvm.MethodName)) ∈ gtb := tc_4 177 (by decide +kernel) rfl
theorem tw_971 : (Jvm.Cond.code ({ cls := "ConstraintTextModel", name := "units", desc := "(I)Z" } : Jvm.MethodName) prog_8_method_7_code (5 : Nat) (Option.some Jvm.ClassFile.FieldType.boolean)) ∈ gtb := tc_4 178 (by decide +kernel) rfl
theorem tw_972 : (Jvm.Cond.methodLink "ConstraintTextLaw" (75 : Nat) ({ cls := "ConstraintTextModel", name := "read", desc := "()I" } : Jvm.MethodName)) ∈ gtb := tc_4 179 (by decide +kernel) rfl
theorem tw_973 : (Jvm.Cond.instanceMethod ({ cls := "ConstraintTextModel", name := "read", desc := "()I" } : Jvm.MethodName)) ∈ gtb := tc_4 180 (by decide +kernel) rfl
theorem tw_974 : (Jvm.Cond.selects "ConstraintTextModel" ({ cls := "ConstraintTextModel", name := "read", desc := "()I" } : Jvm.MethodName) ({ cls := "ConstraintTextModel", name := "read", desc := "()I" } : Jvm.MethodName)) ∈ gtb := tc_4 181 (by decide +kernel) rfl
theorem tw_975 : (Jvm.Cond.code ({ cls := "ConstraintTextModel", name := "read", desc := "()I" } : Jvm.MethodName) prog_8_method_33_code (2 : Nat) (Option.some Jvm.ClassFile.FieldType.int)) ∈ gtb := tc_4 182 (by decide +kernel) rfl
theorem tw_976 : (Jvm.Cond.methodLink "ConstraintTextModel" (99 : Nat) ({ cls := "ConstraintTextModel", name := "next", desc := "()V" } : Jvm.MethodName)) ∈ gtb := tc_4 183 (by decide +kernel) rfl
theorem tw_978 : (Jvm.Cond.instanceMethod ({ cls := "ConstraintTextModel", name := "next", desc := "()V" } : Jvm.MethodName)) ∈ gtb := tc_4 185 (by decide +kernel) rfl
theorem tw_979 : (Jvm.Cond.code ({ cls := "ConstraintTextModel", name := "next", desc := "()V" } : Jvm.MethodName) prog_8_method_8_code (1 : Nat) (Option.none : Option Jvm.ClassFile.FieldType)) ∈ gtb := tc_4 186 (by decide +kernel) rfl
theorem tw_980 : (Jvm.Cond.methodLink "ConstraintTextModel" (187 : Nat) ({ cls := "ConstraintTextModel", name := "readRow", desc := "()V" } : Jvm.MethodName)) ∈ gtb := tc_4 187 (by decide +kernel) rfl
theorem tw_982 : (Jvm.Cond.instanceMethod ({ cls := "ConstraintTextModel", name := "readRow", desc := "()V" } : Jvm.MethodName)) ∈ gtb := tc_4 189 (by decide +kernel) rfl
theorem tw_983 : (Jvm.Cond.code ({ cls := "ConstraintTextModel", name := "readRow", desc := "()V" } : Jvm.MethodName) prog_8_method_25_code (4 : Nat) (Option.none : Option Jvm.ClassFile.FieldType)) ∈ gtb := tc_4 190 (by decide +kernel) rfl
theorem tw_984 : (Jvm.Cond.methodLink "ConstraintTextModel" (129 : Nat) ({ cls := "ConstraintTextModel", name := "wordName", desc := "()J" } : Jvm.MethodName)) ∈ gtb := tc_4 191 (by decide +kernel) rfl
theorem tw_986 : (Jvm.Cond.instanceMethod ({ cls := "ConstraintTextModel", name := "wordName", desc := "()J" } : Jvm.MethodName)) ∈ gtb := tc_4 193 (by decide +kernel) rfl
theorem tw_987 : (Jvm.Cond.code ({ cls := "ConstraintTextModel", name := "wordName", desc := "()J" } : Jvm.MethodName) prog_8_method_11_code (5 : Nat) (Option.some Jvm.ClassFile.FieldType.long)) ∈ gtb := tc_4 194 (by decide +kernel) rfl
theorem tw_988 : (Jvm.Cond.constantLong "ConstraintTextModel" (106 : Nat) (27 : Int64)) ∈ gtb := tc_4 195 (by decide +kernel) rfl
theorem tw_989 : (Jvm.Cond.constantLong "ConstraintTextModel" (108 : Nat) (96 : Int64)) ∈ gtb := tc_4 196 (by decide +kernel) rfl
theorem tw_990 : (Jvm.Cond.methodLink "ConstraintTextModel" (157 : Nat) ({ cls := "ConstraintTextModel", name := "sortOf", desc := "(J)I" } : Jvm.MethodName)) ∈ gtb := tc_4 197 (by decide +kernel) rfl
theorem tw_992 : (Jvm.Cond.instanceMethod ({ cls := "ConstraintTextModel", name := "sortOf", desc := "(J)I" } : Jvm.MethodName)) ∈ gtb := tc_4 199 (by decide +kernel) rfl
theorem tw_993 : (Jvm.Cond.code ({ cls := "ConstraintTextModel", name := "sortOf", desc := "(J)I" } : Jvm.MethodName) prog_8_method_18_code (5 : Nat) (Option.some Jvm.ClassFile.FieldType.int)) ∈ gtb := tc_4 200 (by decide +kernel) rfl
theorem tw_994 : (Jvm.Cond.methodLink "ConstraintTextModel" (122 : Nat) ({ cls := "ConstraintTextModel", name := "wordOf", desc := "(I)J" } : Jvm.MethodName)) ∈ gtb := tc_4 201 (by decide +kernel) rfl
theorem tw_995 : (Jvm.Cond.static ({ cls := "ConstraintTextModel", name := "wordOf", desc := "(I)J" } : Jvm.MethodName)) ∈ gtb := tc_4 202 (by decide +kernel) rfl
theorem tw_996 : (Jvm.Cond.code ({ cls := "ConstraintTextModel", name := "wordOf", desc := "(I)J" } : Jvm.MethodName) prog_8_method_17_code (1 : Nat) (Option.some Jvm.ClassFile.FieldType.long)) ∈ gtb := tc_4 203 (by decide +kernel) rfl
theorem tw_997 : (Jvm.Cond.methodLink "ConstraintTextModel" (118 : Nat) ({ cls := "ConstraintTextModel", name := "word", desc := "(IIIIII)J" } : Jvm.MethodName)) ∈ gtb := tc_4 204 (by decide +kernel) rfl
theorem tw_998 : (Jvm.Cond.static ({ cls := "ConstraintTextModel", name := "word", desc := "(IIIIII)J" } : Jvm.MethodName)) ∈ gtb := tc_4 205 (by decide +kernel) rfl
theorem tw_999 : (Jvm.Cond.code ({ cls := "ConstraintTextModel", name := "word", desc := "(IIIIII)J" } : Jvm.MethodName) prog_8_method_16_code (8 : Nat) (Option.some Jvm.ClassFile.FieldType.long)) ∈ gtb := tc_4 206 (by decide +kernel) rfl
theorem tw_1000 : (Jvm.Cond.methodLink "ConstraintTextModel" (102 : Nat) ({ cls := "ConstraintTextModel", name := "take", desc := "(Z)V" } : Jvm.MethodName)) ∈ gtb := tc_4 207 (by decide +kernel) rfl
theorem tw_1002 : (Jvm.Cond.instanceMethod ({ cls := "ConstraintTextModel", name := "take", desc := "(Z)V" } : Jvm.MethodName)) ∈ gtb := tc_4 209 (by decide +kernel) rfl
theorem tw_1003 : (Jvm.Cond.code ({ cls := "ConstraintTextModel", name := "take", desc := "(Z)V" } : Jvm.MethodName) prog_8_method_9_code (2 : Nat) (Option.none : Option Jvm.ClassFile.FieldType)) ∈ gtb := tc_4 210 (by decide +kernel) rfl
theorem tw_1004 : (Jvm.Cond.methodLink "ConstraintTextModel" (160 : Nat) ({ cls := "ConstraintTextModel", name := "readClock", desc := "(I)V" } : Jvm.MethodName)) ∈ gtb := tc_4 211 (by decide +kernel) rfl
theorem tw_1006 : (Jvm.Cond.instanceMethod ({ cls := "ConstraintTextModel", name := "readClock", desc := "(I)V" } : Jvm.MethodName)) ∈ gtb := tc_4 213 (by decide +kernel) rfl
theorem tw_1007 : (Jvm.Cond.code ({ cls := "ConstraintTextModel", name := "readClock", desc := "(I)V" } : Jvm.MethodName) prog_8_method_22_code (3 : Nat) (Option.none : Option Jvm.ClassFile.FieldType)) ∈ gtb := tc_4 214 (by decide +kernel) rfl
theorem tw_1008 : (Jvm.Cond.methodLink "ConstraintTextModel" (140 : Nat) ({ cls := "ConstraintTextModel", name := "takeNew", desc := "(I)V" } : Jvm.MethodName)) ∈ gtb := tc_4 215 (by decide +kernel) rfl
theorem tw_1010 : (Jvm.Cond.instanceMethod ({ cls := "ConstraintTextModel", name := "takeNew", desc := "(I)V" } : Jvm.MethodName)) ∈ gtb := tc_4 217 (by decide +kernel) rfl
theorem tw_1011 : (Jvm.Cond.code ({ cls := "ConstraintTextModel", name := "takeNew", desc := "(I)V" } : Jvm.MethodName) prog_8_method_20_code (4 : Nat) (Option.none : Option Jvm.ClassFile.FieldType)) ∈ gtb := tc_4 218 (by decide +kernel) rfl
theorem tw_1012 : (Jvm.Cond.methodLink "ConstraintTextModel" (136 : Nat) ({ cls := "ConstraintTextModel", name := "clockOf", desc := "(J)I" } : Jvm.MethodName)) ∈ gtb := tc_4 219 (by decide +kernel) rfl
theorem tw_1014 : (Jvm.Cond.instanceMethod ({ cls := "ConstraintTextModel", name := "clockOf", desc := "(J)I" } : Jvm.MethodName)) ∈ gtb := tc_4 221 (by decide +kernel) rfl
theorem tw_1015 : (Jvm.Cond.code ({ cls := "ConstraintTextModel", name := "clockOf", desc := "(J)I" } : Jvm.MethodName) prog_8_method_19_code (5 : Nat) (Option.some Jvm.ClassFile.FieldType.int)) ∈ gtb := tc_4 222 (by decide +kernel) rfl
theorem tw_1016 : (Jvm.Cond.constant "ConstraintTextModel" (144 : Nat) (999999 : Int32)) ∈ gtb := tc_4 223 (by decide +kernel) rfl
theorem tw_1017 : (Jvm.Cond.methodLink "ConstraintTextModel" (145 : Nat) ({ cls := "ConstraintTextModel", name := "takeWhole", desc := "(II)I" } : Jvm.MethodName)) ∈ gtb := tc_4 224 (by decide +kernel) rfl
theorem tw_1019 : (Jvm.Cond.instanceMethod ({ cls := "ConstraintTextModel", name := "takeWhole", desc := "(II)I" } : Jvm.MethodName)) ∈ gtb := tc_4 226 (by decide +kernel) rfl
theorem tw_1020 : (Jvm.Cond.code ({ cls := "ConstraintTextModel", name := "takeWhole", desc := "(II)I" } : Jvm.MethodName) prog_8_method_14_code (4 : Nat) (Option.some Jvm.ClassFile.FieldType.int)) ∈ gtb := tc_4 227 (by decide +kernel) rfl
theorem tw_1021 : (Jvm.Cond.methodLink "ConstraintTextModel" (110 : Nat) ({ cls := "ConstraintTextModel", name := "whole", desc := "()I" } : Jvm.MethodName)) ∈ gtb := tc_4 228 (by decide +kernel) rfl
theorem tw_1023 : (Jvm.Cond.instanceMethod ({ cls := "ConstraintTextModel", name := "whole", desc := "()I" } : Jvm.MethodName)) ∈ gtb := tc_4 230 (by decide +kernel) rfl
theorem tw_1024 : (Jvm.Cond.code ({ cls := "ConstraintTextModel", name := "whole", desc := "()I" } : Jvm.MethodName) prog_8_method_12_code (4 : Nat) (Option.some Jvm.ClassFile.FieldType.int)) ∈ gtb := tc_4 231 (by decide +kernel) rfl
theorem tw_1025 : (Jvm.Cond.methodLink "ConstraintTextModel" (149 : Nat) ({ cls := "ConstraintTextModel", name := "takePattern", desc := "(IIZ)V" } : Jvm.MethodName)) ∈ gtb := tc_4 232 (by decide +kernel) rfl
theorem tw_1027 : (Jvm.Cond.instanceMethod ({ cls := "ConstraintTextModel", name := "takePattern", desc := "(IIZ)V" } : Jvm.MethodName)) ∈ gtb := tc_4 234 (by decide +kernel) rfl
theorem tw_1028 : (Jvm.Cond.code ({ cls := "ConstraintTextModel", name := "takePattern", desc := "(IIZ)V" } : Jvm.MethodName) prog_8_method_15_code (7 : Nat) (Option.none : Option Jvm.ClassFile.FieldType)) ∈ gtb := tc_4 235 (by decide +kernel) rfl
theorem tw_1029 : (Jvm.Cond.methodLink "ConstraintTextModel" (114 : Nat) ({ cls := "ConstraintTextModel", name := "isPattern", desc := "()Z" } : Jvm.MethodName)) ∈ gtb := tc_4 236 (by decide +kernel) rfl
theorem tw_1031 : (Jvm.Cond.instanceMethod ({ cls := "ConstraintTextModel", name := "isPattern", desc := "()Z" } : Jvm.MethodName)) ∈ gtb := tc_4 238 (by decide +kernel) rfl
theorem tw_1032 : (Jvm.Cond.code ({ cls := "ConstraintTextModel", name := "isPattern", desc := "()Z" } : Jvm.MethodName) prog_8_method_13_code (3 : Nat) (Option.some Jvm.ClassFile.FieldType.boolean)) ∈ gtb := tc_4 239 (by decide +kernel) rfl
theorem tw_1033 : (Jvm.Cond.methodLink "ConstraintTextModel" (163 : Nat) ({ cls := "ConstraintTextModel", name := "readDerived", desc := "(I)V" } : Jvm.MethodName)) ∈ gtb := tc_5 0 (by decide +kernel) rfl
theorem tw_1035 : (Jvm.Cond.instanceMethod ({ cls := "ConstraintTextModel", name := "readDerived", desc := "(I)V" } : Jvm.MethodName)) ∈ gtb := tc_5 2 (by decide +kernel) rfl
theorem tw_1036 : (Jvm.Cond.code ({ cls := "ConstraintTextModel", name := "readDerived", desc := "(I)V" } : Jvm.MethodName) prog_8_method_23_code (2 : Nat) (Option.none : Option Jvm.ClassFile.FieldType)) ∈ gtb := tc_5 3 (by decide +kernel) rfl
theorem tw_1037 : (Jvm.Cond.methodLink "ConstraintTextModel" (153 : Nat) ({ cls := "ConstraintTextModel", name := "takeOld", desc := "(IZ)V" } : Jvm.MethodName)) ∈ gtb := tc_5 4 (by decide +kernel) rfl
theorem tw_1039 : (Jvm.Cond.instanceMethod ({ cls := "ConstraintTextModel", name := "takeOld", desc := "(IZ)V" } : Jvm.MethodName)) ∈ gtb := tc_5 6 (by decide +kernel) rfl
theorem tw_1040 : (Jvm.Cond.code ({ cls := "ConstraintTextModel", name := "takeOld", desc := "(IZ)V" } : Jvm.MethodName) prog_8_method_21_code (5 : Nat) (Option.none : Option Jvm.ClassFile.FieldType)) ∈ gtb := tc_5 7 (by decide +kernel) rfl
theorem tw_1041 : (Jvm.Cond.methodLink "ConstraintTextModel" (166 : Nat) ({ cls := "ConstraintTextModel", name := "readException", desc := "(I)V" } : Jvm.MethodName)) ∈ gtb := tc_5 8 (by decide +kernel) rfl
theorem tw_1043 : (Jvm.Cond.instanceMethod ({ cls := "ConstraintTextModel", name := "readException", desc := "(I)V" } : Jvm.MethodName)) ∈ gtb := tc_5 10 (by decide +kernel) rfl
theorem tw_1044 : (Jvm.Cond.code ({ cls := "ConstraintTextModel", name := "readException", desc := "(I)V" } : Jvm.MethodName) prog_8_method_24_code (4 : Nat) (Option.none : Option Jvm.ClassFile.FieldType)) ∈ gtb := tc_5 11 (by decide +kernel) rfl
theorem tw_1045 : (Jvm.Cond.methodLink "ConstraintTextModel" (169 : Nat) ({ cls := "ConstraintTextModel", name := "takeEnd", desc := "()V" } : Jvm.MethodName)) ∈ gtb := tc_5 12 (by decide +kernel) rfl
theorem tw_1047 : (Jvm.Cond.instanceMethod ({ cls := "ConstraintTextModel", name := "takeEnd", desc := "()V" } : Jvm.MethodName)) ∈ gtb := tc_5 14 (by decide +kernel) rfl
theorem tw_1048 : (Jvm.Cond.code ({ cls := "ConstraintTextModel", name := "takeEnd", desc := "()V" } : Jvm.MethodName) prog_8_method_10_code (1 : Nat) (Option.none : Option Jvm.ClassFile.FieldType)) ∈ gtb := tc_5 15 (by decide +kernel) rfl
theorem tw_1049 : (Jvm.Cond.methodLink "ConstraintTextModel" (190 : Nat) ({ cls := "ConstraintTextModel", name := "unknown", desc := "()I" } : Jvm.MethodName)) ∈ gtb := tc_5 16 (by decide +kernel) rfl
theorem tw_1051 : (Jvm.Cond.instanceMethod ({ cls := "ConstraintTextModel", name := "unknown", desc := "()I" } : Jvm.MethodName)) ∈ gtb := tc_5 18 (by decide +kernel) rfl
theorem tw_1052 : (Jvm.Cond.code ({ cls := "ConstraintTextModel", name := "unknown", desc := "()I" } : Jvm.MethodName) prog_8_method_26_code (3 : Nat) (Option.some Jvm.ClassFile.FieldType.int)) ∈ gtb := tc_5 19 (by decide +kernel) rfl
theorem tw_1053 : (Jvm.Cond.methodLink "ConstraintTextModel" (193 : Nat) ({ cls := "ConstraintTextModel", name := "findFrom", desc := "()V" } : Jvm.MethodName)) ∈ gtb := tc_5 20 (by decide +kernel) rfl
theorem tw_1055 : (Jvm.Cond.instanceMethod ({ cls := "ConstraintTextModel", name := "findFrom", desc := "()V" } : Jvm.MethodName)) ∈ gtb := tc_5 22 (by decide +kernel) rfl
theorem tw_1056 : (Jvm.Cond.code ({ cls := "ConstraintTextModel", name := "findFrom", desc := "()V" } : Jvm.MethodName) prog_8_method_27_code (3 : Nat) (Option.none : Option Jvm.ClassFile.FieldType)) ∈ gtb := tc_5 23 (by decide +kernel) rfl
theorem tw_1057 : (Jvm.Cond.methodLink "ConstraintTextModel" (196 : Nat) ({ cls := "ConstraintTextModel", name := "ring", desc := "()I" } : Jvm.MethodName)) ∈ gtb := tc_5 24 (by decide +kernel) rfl
theorem tw_1059 : (Jvm.Cond.instanceMethod ({ cls := "ConstraintTextModel", name := "ring", desc := "()I" } : Jvm.MethodName)) ∈ gtb := tc_5 26 (by decide +kernel) rfl
theorem tw_1060 : (Jvm.Cond.code ({ cls := "ConstraintTextModel", name := "ring", desc := "()I" } : Jvm.MethodName) prog_8_method_28_code (4 : Nat) (Option.some Jvm.ClassFile.FieldType.int)) ∈ gtb := tc_5 27 (by decide +kernel) rfl
theorem tw_1061 : (Jvm.Cond.methodLink "ConstraintTextModel" (199 : Nat) ({ cls := "ConstraintTextModel", name := "greatOne", desc := "()I" } : Jvm.MethodName)) ∈ gtb := tc_5 28 (by decide +kernel) rfl
theorem tw_1063 : (Jvm.Cond.instanceMethod ({ cls := "ConstraintTextModel", name := "greatOne", desc := "()I" } : Jvm.MethodName)) ∈ gtb := tc_5 30 (by decide +kernel) rfl
theorem tw_1064 : (Jvm.Cond.code ({ cls := "ConstraintTextModel", name := "greatOne", desc := "()I" } : Jvm.MethodName) prog_8_method_32_code (3 : Nat) (Option.some Jvm.ClassFile.FieldType.int)) ∈ gtb := tc_5 31 (by decide +kernel) rfl
theorem tw_1065 : (Jvm.Cond.methodLink "ConstraintTextModel" (180 : Nat) ({ cls := "ConstraintTextModel", name := "depth", desc := "(I)I" } : Jvm.MethodName)) ∈ gtb := tc_5 32 (by decide +kernel) rfl
theorem tw_1067 : (Jvm.Cond.instanceMethod ({ cls := "ConstraintTextModel", name := "depth", desc := "(I)I" } : Jvm.MethodName)) ∈ gtb := tc_5 34 (by decide +kernel) rfl
theorem tw_1068 : (Jvm.Cond.code ({ cls := "ConstraintTextModel", name := "depth", desc := "(I)I" } : Jvm.MethodName) prog_8_method_31_code (4 : Nat) (Option.some Jvm.ClassFile.FieldType.int)) ∈ gtb := tc_5 35 (by decide +kernel) rfl
theorem tw_1069 : (Jvm.Cond.methodLink "ConstraintTextModel" (184 : Nat) ({ cls := "ConstraintTextModel", name := "reckon", desc := "(I)V" } : Jvm.MethodName)) ∈ gtb := tc_5 36 (by decide +kernel) rfl
theorem tw_1071 : (Jvm.Cond.instanceMethod ({ cls := "ConstraintTextModel", name := "reckon", desc := "(I)V" } : Jvm.MethodName)) ∈ gtb := tc_5 38 (by decide +kernel) rfl
theorem tw_1072 : (Jvm.Cond.code ({ cls := "ConstraintTextModel", name := "reckon", desc := "(I)V" } : Jvm.MethodName) prog_8_method_30_code (15 : Nat) (Option.none : Option Jvm.ClassFile.FieldType)) ∈ gtb := tc_5 39 (by decide +kernel) rfl
theorem tw_1073 : (Jvm.Cond.methodLink "ConstraintTextModel" (172 : Nat) ({ cls := "ConstraintTextModel", name := "common", desc := "(JJ)J" } : Jvm.MethodName)) ∈ gtb := tc_5 40 (by decide +kernel) rfl
theorem tw_1074 : (Jvm.Cond.static ({ cls := "ConstraintTextModel", name := "common", desc := "(JJ)J" } : Jvm.MethodName)) ∈ gtb := tc_5 41 (by decide +kernel) rfl
theorem tw_1075 : (Jvm.Cond.code ({ cls := "ConstraintTextModel", name := "common", desc := "(JJ)J" } : Jvm.MethodName) prog_8_method_29_code (10 : Nat) (Option.some Jvm.ClassFile.FieldType.long)) ∈ gtb := tc_5 42 (by decide +kernel) rfl
theorem tw_1076 : (Jvm.Cond.constantLong "ConstraintTextModel" (176 : Nat) (1000000 : Int64)) ∈ gtb := tc_5 43 (by decide +kernel) rfl
theorem tw_1077 : (Jvm.Cond.constantLong "ConstraintTextModel" (178 : Nat) (2 : Int64)) ∈ gtb := tc_5 44 (by decide +kernel) rfl
theorem tw_1078 : (Jvm.Cond.methodLink "ConstraintTextModel" (202 : Nat) ({ cls := "ConstraintTextModel", name := "adopt", desc := "()V" } : Jvm.MethodName)) ∈ gtb := tc_5 45 (by decide +kernel) rfl
theorem tw_1080 : (Jvm.Cond.instanceMethod ({ cls := "ConstraintTextModel", name := "adopt", desc := "()V" } : Jvm.MethodName)) ∈ gtb := tc_5 47 (by decide +kernel) rfl
theorem tw_1081 : (Jvm.Cond.code ({ cls := "ConstraintTextModel", name := "adopt", desc := "()V" } : Jvm.MethodName) prog_8_method_34_code (4 : Nat) (Option.none : Option Jvm.ClassFile.FieldType)) ∈ gtb := tc_5 48 (by decide +kernel) rfl
theorem tw_1082 : (Jvm.Cond.methodLink "ConstraintTextLaw" (78 : Nat) ({ cls := "ConstraintTextModel", name := "clock", desc := "(II)I" } : Jvm.MethodName)) ∈ gtb := tc_5 49 (by decide +kernel) rfl
theorem tw_1083 : (Jvm.Cond.instanceMethod ({ cls := "ConstraintTextModel", name := "clock", desc := "(II)I" } : Jvm.MethodName)) ∈ gtb := tc_5 50 (by decide +kernel) rfl
theorem tw_1084 : (Jvm.Cond.selects "ConstraintTextModel" ({ cls := "ConstraintTextModel", name := "clock", desc := "(II)I" } : Jvm.MethodName) ({ cls := "ConstraintTextModel", name := "clock", desc := "(II)I" } : Jvm.MethodName)) ∈ gtb := tc_5 51 (by decide +kernel) rfl
theorem tw_1085 : (Jvm.Cond.code ({ cls := "ConstraintTextModel", name := "clock", desc := "(II)I" } : Jvm.MethodName) prog_8_method_38_code (3 : Nat) (Option.some Jvm.ClassFile.FieldType.int)) ∈ gtb := tc_5 52 (by decide +kernel) rfl
theorem tw_1086 : (Jvm.Cond.methodLink "ConstraintTextModel" (215 : Nat) ({ cls := "ConstraintTextModel", name := "isClock", desc := "(I)Z" } : Jvm.MethodName)) ∈ gtb := tc_5 53 (by decide +kernel) rfl
theorem tw_1088 : (Jvm.Cond.instanceMethod ({ cls := "ConstraintTextModel", name := "isClock", desc := "(I)Z" } : Jvm.MethodName)) ∈ gtb := tc_5 55 (by decide +kernel) rfl
theorem tw_1089 : (Jvm.Cond.code ({ cls := "ConstraintTextModel", name := "isClock", desc := "(I)Z" } : Jvm.MethodName) prog_8_method_37_code (2 : Nat) (Option.some Jvm.ClassFile.FieldType.boolean)) ∈ gtb := tc_5 56 (by decide +kernel) rfl
theorem tw_1090 : (Jvm.Cond.methodLink "ConstraintTextModel" (218 : Nat) ({ cls := "ConstraintTextModel", name := "matched", desc := "(II)I" } : Jvm.MethodName)) ∈ gtb := tc_5 57 (by decide +kernel) rfl
theorem tw_1092 : (Jvm.Cond.instanceMethod ({ cls := "ConstraintTextModel", name := "matched", desc := "(II)I" } : Jvm.MethodName)) ∈ gtb := tc_5 59 (by decide +kernel) rfl
theorem tw_1093 : (Jvm.Cond.code ({ cls := "ConstraintTextModel", name := "matched", desc := "(II)I" } : Jvm.MethodName) prog_8_method_36_code (5 : Nat) (Option.some Jvm.ClassFile.FieldType.int)) ∈ gtb := tc_5 60 (by decide +kernel) rfl
theorem tw_1094 : (Jvm.Cond.methodLink "ConstraintTextModel" (211 : Nat) ({ cls := "ConstraintTextModel", name := "matches", desc := "(III)Z" } : Jvm.MethodName)) ∈ gtb := tc_5 61 (by decide +kernel) rfl
theorem tw_1096 : (Jvm.Cond.instanceMethod ({ cls := "ConstraintTextModel", name := "matches", desc := "(III)Z" } : Jvm.MethodName)) ∈ gtb := tc_5 63 (by decide +kernel) rfl
theorem tw_1097 : (Jvm.Cond.code ({ cls := "ConstraintTextModel", name := "matches", desc := "(III)Z" } : Jvm.MethodName) prog_8_method_35_code (9 : Nat) (Option.some Jvm.ClassFile.FieldType.boolean)) ∈ gtb := tc_5 64 (by decide +kernel) rfl
theorem tw_1098 : (Jvm.Cond.methodLink "ConstraintTextLaw" (82 : Nat) ({ cls := "ConstraintTextModel", name := "edge", desc := "(III)J" } : Jvm.MethodName)) ∈ gtb := tc_5 65 (by decide +kernel) rfl
theorem tw_1099 : (Jvm.Cond.instanceMethod ({ cls := "ConstraintTextModel", name := "edge", desc := "(III)J" } : Jvm.MethodName)) ∈ gtb := tc_5 66 (by decide +kernel) rfl
theorem tw_1100 : (Jvm.Cond.selects "ConstraintTextModel" ({ cls := "ConstraintTextModel", name := "edge", desc := "(III)J" } : Jvm.MethodName) ({ cls := "ConstraintTextModel", name := "edge", desc := "(III)J" } : Jvm.MethodName)) ∈ gtb := tc_5 67 (by decide +kernel) rfl
theorem tw_1101 : (Jvm.Cond.code ({ cls := "ConstraintTextModel", name := "edge", desc := "(III)J" } : Jvm.MethodName) prog_8_method_40_code (7 : Nat) (Option.some Jvm.ClassFile.FieldType.long)) ∈ gtb := tc_5 68 (by decide +kernel) rfl
theorem tw_1102 : (Jvm.Cond.methodLink "ConstraintTextModel" (221 : Nat) ({ cls := "ConstraintTextModel", name := "part", desc := "(JJI)J" } : Jvm.MethodName)) ∈ gtb := tc_5 69 (by decide +kernel) rfl
theorem tw_1103 : (Jvm.Cond.static ({ cls := "ConstraintTextModel", name := "part", desc := "(JJI)J" } : Jvm.MethodName)) ∈ gtb := tc_5 70 (by decide +kernel) rfl
theorem tw_1104 : (Jvm.Cond.code ({ cls := "ConstraintTextModel", name := "part", desc := "(JJI)J" } : Jvm.MethodName) prog_8_method_39_code (7 : Nat) (Option.some Jvm.ClassFile.FieldType.long)) ∈ gtb := tc_5 71 (by decide +kernel) rfl
theorem tw_1105 : (Jvm.Cond.methodLink "ConstraintTextLaw" (85 : Nat) ({ cls := "ConstraintTextModel", name := "distance", desc := "(III)J" } : Jvm.MethodName)) ∈ gtb := tc_5 72 (by decide +kernel) rfl
theorem tw_1106 : (Jvm.Cond.instanceMethod ({ cls := "ConstraintTextModel", name := "distance", desc := "(III)J" } : Jvm.MethodName)) ∈ gtb := tc_5 73 (by decide +kernel) rfl
theorem tw_1107 : (Jvm.Cond.selects "ConstraintTextModel" ({ cls := "ConstraintTextModel", name := "distance", desc := "(III)J" } : Jvm.MethodName) ({ cls := "ConstraintTextModel", name := "distance", desc := "(III)J" } : Jvm.MethodName)) ∈ gtb := tc_5 74 (by decide +kernel) rfl
theorem tw_1108 : (Jvm.Cond.code ({ cls := "ConstraintTextModel", name := "distance", desc := "(III)J" } : Jvm.MethodName) prog_8_method_42_code (10 : Nat) (Option.some Jvm.ClassFile.FieldType.long)) ∈ gtb := tc_5 75 (by decide +kernel) rfl
theorem tw_1109 : (Jvm.Cond.methodLink "ConstraintTextModel" (225 : Nat) ({ cls := "ConstraintTextModel", name := "areApart", desc := "(II)Z" } : Jvm.MethodName)) ∈ gtb := tc_5 76 (by decide +kernel) rfl
theorem tw_1111 : (Jvm.Cond.instanceMethod ({ cls := "ConstraintTextModel", name := "areApart", desc := "(II)Z" } : Jvm.MethodName)) ∈ gtb := tc_5 78 (by decide +kernel) rfl
theorem tw_1112 : (Jvm.Cond.code ({ cls := "ConstraintTextModel", name := "areApart", desc := "(II)Z" } : Jvm.MethodName) prog_8_method_41_code (9 : Nat) (Option.some Jvm.ClassFile.FieldType.boolean)) ∈ gtb := tc_5 79 (by decide +kernel) rfl
theorem tw_1113 : (Jvm.Cond.methodLink "ConstraintTextLaw" (88 : Nat) ({ cls := "ConstraintTextModel", name := "exception", desc := "(III)I" } : Jvm.MethodName)) ∈ gtb := tc_5 80 (by decide +kernel) rfl
theorem tw_1114 : (Jvm.Cond.instanceMethod ({ cls := "ConstraintTextModel", name := "exception", desc := "(III)I" } : Jvm.MethodName)) ∈ gtb := tc_5 81 (by decide +kernel) rfl
theorem tw_1115 : (Jvm.Cond.selects "ConstraintTextModel" ({ cls := "ConstraintTextModel", name := "exception", desc := "(III)I" } : Jvm.MethodName) ({ cls := "ConstraintTextModel", name := "exception", desc := "(III)I" } : Jvm.MethodName)) ∈ gtb := tc_5 82 (by decide +kernel) rfl
theorem tw_1116 : (Jvm.Cond.code ({ cls := "ConstraintTextModel", name := "exception", desc := "(III)I" } : Jvm.MethodName) prog_8_method_46_code (7 : Nat) (Option.some Jvm.ClassFile.FieldType.int)) ∈ gtb := tc_5 83 (by decide +kernel) rfl
theorem tw_1117 : (Jvm.Cond.methodLink "ConstraintTextModel" (229 : Nat) ({ cls := "ConstraintTextModel", name := "isPin", desc := "(I)Z" } : Jvm.MethodName)) ∈ gtb := tc_5 84 (by decide +kernel) rfl
theorem tw_1118 : (Jvm.Cond.static ({ cls := "ConstraintTextModel", name := "isPin", desc := "(I)Z" } : Jvm.MethodName)) ∈ gtb := tc_5 85 (by decide +kernel) rfl
theorem tw_1119 : (Jvm.Cond.code ({ cls := "ConstraintTextModel", name := "isPin", desc := "(I)Z" } : Jvm.MethodName) prog_8_method_45_code (1 : Nat) (Option.some Jvm.ClassFile.FieldType.boolean)) ∈ gtb := tc_5 86 (by decide +kernel) rfl
theorem tw_1120 : (Jvm.Cond.methodLink "ConstraintTextModel" (232 : Nat) ({ cls := "ConstraintTextModel", name := "fits", desc := "(III)Z" } : Jvm.MethodName)) ∈ gtb := tc_5 87 (by decide +kernel) rfl
theorem tw_1122 : (Jvm.Cond.instanceMethod ({ cls := "ConstraintTextModel", name := "fits", desc := "(III)Z" } : Jvm.MethodName)) ∈ gtb := tc_5 89 (by decide +kernel) rfl
theorem tw_1123 : (Jvm.Cond.code ({ cls := "ConstraintTextModel", name := "fits", desc := "(III)Z" } : Jvm.MethodName) prog_8_method_43_code (4 : Nat) (Option.some Jvm.ClassFile.FieldType.boolean)) ∈ gtb := tc_5 90 (by decide +kernel) rfl
theorem tw_1124 : (Jvm.Cond.methodLink "ConstraintTextModel" (235 : Nat) ({ cls := "ConstraintTextModel", name := "strength", desc := "(I)I" } : Jvm.MethodName)) ∈ gtb := tc_5 91 (by decide +kernel) rfl
theorem tw_1126 : (Jvm.Cond.instanceMethod ({ cls := "ConstraintTextModel", name := "strength", desc := "(I)I" } : Jvm.MethodName)) ∈ gtb := tc_5 93 (by decide +kernel) rfl
theorem tw_1127 : (Jvm.Cond.code ({ cls := "ConstraintTextModel", name := "strength", desc := "(I)I" } : Jvm.MethodName) prog_8_method_44_code (3 : Nat) (Option.some Jvm.ClassFile.FieldType.int)) ∈ gtb := tc_5 94 (by decide +kernel) rfl
theorem tw_1128 : (Jvm.Cond.methodLink "ConstraintTextLaw" (91 : Nat) ({ cls := "ConstraintTextModel", name := "row", desc := "(II)I" } : Jvm.MethodName)) ∈ gtb := tc_5 95 (by decide +kernel) rfl
theorem tw_1129 : (Jvm.Cond.instanceMethod ({ cls := "ConstraintTextModel", name := "row", desc := "(II)I" } : Jvm.MethodName)) ∈ gtb := tc_5 96 (by decide +kernel) rfl
theorem tw_1130 : (Jvm.Cond.selects "ConstraintTextModel" ({ cls := "ConstraintTextModel", name := "row", desc := "(II)I" } : Jvm.MethodName) ({ cls := "ConstraintTextModel", name := "row", desc := "(II)I" } : Jvm.MethodName)) ∈ gtb := tc_5 97 (by decide +kernel) rfl
theorem tw_1131 : (Jvm.Cond.code ({ cls := "ConstraintTextModel", name := "row", desc := "(II)I" } : Jvm.MethodName) prog_8_method_47_code (4 : Nat) (Option.some Jvm.ClassFile.FieldType.int)) ∈ gtb := tc_5 98 (by decide +kernel) rfl
theorem tw_1132 : (Jvm.Cond.methodLink "ConstraintTextLaw" (94 : Nat) ({ cls := "ConstraintTextModel", name := "load", desc := "(II)I" } : Jvm.MethodName)) ∈ gtb := tc_5 99 (by decide +kernel) rfl
theorem tw_1133 : (Jvm.Cond.instanceMethod ({ cls := "ConstraintTextModel", name := "load", desc := "(II)I" } : Jvm.MethodName)) ∈ gtb := tc_5 100 (by decide +kernel) rfl
theorem tw_1134 : (Jvm.Cond.selects "ConstraintTextModel" ({ cls := "ConstraintTextModel", name := "load", desc := "(II)I" } : Jvm.MethodName) ({ cls := "ConstraintTextModel", name := "load", desc := "(II)I" } : Jvm.MethodName)) ∈ gtb := tc_5 101 (by decide +kernel) rfl
theorem tw_1135 : (Jvm.Cond.code ({ cls := "ConstraintTextModel", name := "load", desc := "(II)I" } : Jvm.MethodName) prog_8_method_48_code (5 : Nat) (Option.some Jvm.ClassFile.FieldType.int)) ∈ gtb := tc_5 102 (by decide +kernel) rfl
theorem tw_1136 : (Jvm.Cond.methodLink "ConstraintTextLaw" (98 : Nat) ({ cls := "ConstraintTextModel", name := "unmatched", desc := "(I)I" } : Jvm.MethodName)) ∈ gtb := tc_5 103 (by decide +kernel) rfl
theorem tw_1137 : (Jvm.Cond.instanceMethod ({ cls := "ConstraintTextModel", name := "unmatched", desc := "(I)I" } : Jvm.MethodName)) ∈ gtb := tc_5 104 (by decide +kernel) rfl
theorem tw_1138 : (Jvm.Cond.selects "ConstraintTextModel" ({ cls := "ConstraintTextModel", name := "unmatched", desc := "(I)I" } : Jvm.MethodName) ({ cls := "ConstraintTextModel", name := "unmatched", desc := "(I)I" } : Jvm.MethodName)) ∈ gtb := tc_5 105 (by decide +kernel) rfl
theorem tw_1139 : (Jvm.Cond.code ({ cls := "ConstraintTextModel", name := "unmatched", desc := "(I)I" } : Jvm.MethodName) prog_8_method_50_code (4 : Nat) (Option.some Jvm.ClassFile.FieldType.int)) ∈ gtb := tc_5 106 (by decide +kernel) rfl
theorem tw_1140 : (Jvm.Cond.methodLink "ConstraintTextModel" (238 : Nat) ({ cls := "ConstraintTextModel", name := "isUnmatched", desc := "(I)Z" } : Jvm.MethodName)) ∈ gtb := tc_5 107 (by decide +kernel) rfl
theorem tw_1142 : (Jvm.Cond.instanceMethod ({ cls := "ConstraintTextModel", name := "isUnmatched", desc := "(I)Z" } : Jvm.MethodName)) ∈ gtb := tc_5 109 (by decide +kernel) rfl
theorem tw_1143 : (Jvm.Cond.code ({ cls := "ConstraintTextModel", name := "isUnmatched", desc := "(I)Z" } : Jvm.MethodName) prog_8_method_49_code (4 : Nat) (Option.some Jvm.ClassFile.FieldType.boolean)) ∈ gtb := tc_5 110 (by decide +kernel) rfl
theorem tw_1144 : (Jvm.Cond.methodLink "ConstraintTextLaw" (101 : Nat) ({ cls := "ConstraintTextModel", name := "clash", desc := "(II)I" } : Jvm.MethodName)) ∈ gtb := tc_5 111 (by decide +kernel) rfl
theorem tw_1145 : (Jvm.Cond.instanceMethod ({ cls := "ConstraintTextModel", name := "clash", desc := "(II)I" } : Jvm.MethodName)) ∈ gtb := tc_5 112 (by decide +kernel) rfl
theorem tw_1146 : (Jvm.Cond.selects "ConstraintTextModel" ({ cls := "ConstraintTextModel", name := "clash", desc := "(II)I" } : Jvm.MethodName) ({ cls := "ConstraintTextModel", name := "clash", desc := "(II)I" } : Jvm.MethodName)) ∈ gtb := tc_5 113 (by decide +kernel) rfl
theorem tw_1147 : (Jvm.Cond.code ({ cls := "ConstraintTextModel", name := "clash", desc := "(II)I" } : Jvm.MethodName) prog_8_method_52_code (6 : Nat) (Option.some Jvm.ClassFile.FieldType.int)) ∈ gtb := tc_5 114 (by decide +kernel) rfl
theorem tw_1148 : (Jvm.Cond.methodLink "ConstraintTextModel" (241 : Nat) ({ cls := "ConstraintTextModel", name := "areClashing", desc := "(II)Z" } : Jvm.MethodName)) ∈ gtb := tc_5 115 (by decide +kernel) rfl
theorem tw_1150 : (Jvm.Cond.instanceMethod ({ cls := "ConstraintTextModel", name := "areClashing", desc := "(II)Z" } : Jvm.MethodName)) ∈ gtb := tc_5 117 (by decide +kernel) rfl
theorem tw_1151 : (Jvm.Cond.code ({ cls := "ConstraintTextModel", name := "areClashing", desc := "(II)Z" } : Jvm.MethodName) prog_8_method_51_code (6 : Nat) (Option.some Jvm.ClassFile.FieldType.boolean)) ∈ gtb := tc_5 118 (by decide +kernel) rfl
theorem tw_1152 : (Jvm.Cond.methodLink "ConstraintTextLaw" (104 : Nat) ({ cls := "ConstraintTextModel", name := "write", desc := "(I)I" } : Jvm.MethodName)) ∈ gtb := tc_5 119 (by decide +kernel) rfl
theorem tw_1153 : (Jvm.Cond.instanceMethod ({ cls := "ConstraintTextModel", name := "write", desc := "(I)I" } : Jvm.MethodName)) ∈ gtb := tc_5 120 (by decide +kernel) rfl
theorem tw_1154 : (Jvm.Cond.selects "ConstraintTextModel" ({ cls := "ConstraintTextModel", name := "write", desc := "(I)I" } : Jvm.MethodName) ({ cls := "ConstraintTextModel", name := "write", desc := "(I)I" } : Jvm.MethodName)) ∈ gtb := tc_5 121 (by decide +kernel) rfl
theorem tw_1155 : (Jvm.Cond.code ({ cls := "ConstraintTextModel", name := "write", desc := "(I)I" } : Jvm.MethodName) prog_8_method_59_code (2 : Nat) (Option.some Jvm.ClassFile.FieldType.int)) ∈ gtb := tc_5 122 (by decide +kernel) rfl
theorem tw_1156 : (Jvm.Cond.methodLink "ConstraintTextModel" (272 : Nat) ({ cls := "ConstraintTextModel", name := "printAll", desc := "(I)V" } : Jvm.MethodName)) ∈ gtb := tc_5 123 (by decide +kernel) rfl
theorem tw_1158 : (Jvm.Cond.instanceMethod ({ cls := "ConstraintTextModel", name := "printAll", desc := "(I)V" } : Jvm.MethodName)) ∈ gtb := tc_5 125 (by decide +kernel) rfl
theorem tw_1159 : (Jvm.Cond.code ({ cls := "ConstraintTextModel", name := "printAll", desc := "(I)V" } : Jvm.MethodName) prog_8_method_58_code (3 : Nat) (Option.none : Option Jvm.ClassFile.FieldType)) ∈ gtb := tc_5 126 (by decide +kernel) rfl
theorem tw_1160 : (Jvm.Cond.methodLink "ConstraintTextModel" (269 : Nat) ({ cls := "ConstraintTextModel", name := "print", desc := "(I)V" } : Jvm.MethodName)) ∈ gtb := tc_5 127 (by decide +kernel) rfl
theorem tw_1162 : (Jvm.Cond.instanceMethod ({ cls := "ConstraintTextModel", name := "print", desc := "(I)V" } : Jvm.MethodName)) ∈ gtb := tc_5 129 (by decide +kernel) rfl
theorem tw_1163 : (Jvm.Cond.code ({ cls := "ConstraintTextModel", name := "print", desc := "(I)V" } : Jvm.MethodName) prog_8_method_57_code (4 : Nat) (Option.none : Option Jvm.ClassFile.FieldType)) ∈ gtb := tc_5 130 (by decide +kernel) rfl
theorem tw_1164 : (Jvm.Cond.methodLink "ConstraintTextModel" (258 : Nat) ({ cls := "ConstraintTextModel", name := "putWord", desc := "(J)V" } : Jvm.MethodName)) ∈ gtb := tc_5 131 (by decide +kernel) rfl
theorem tw_1166 : (Jvm.Cond.instanceMethod ({ cls := "ConstraintTextModel", name := "putWord", desc := "(J)V" } : Jvm.MethodName)) ∈ gtb := tc_5 133 (by decide +kernel) rfl
theorem tw_1167 : (Jvm.Cond.code ({ cls := "ConstraintTextModel", name := "putWord", desc := "(J)V" } : Jvm.MethodName) prog_8_method_54_code (7 : Nat) (Option.none : Option Jvm.ClassFile.FieldType)) ∈ gtb := tc_5 134 (by decide +kernel) rfl
theorem tw_1168 : (Jvm.Cond.constantLong "ConstraintTextModel" (253 : Nat) (26 : Int64)) ∈ gtb := tc_5 135 (by decide +kernel) rfl
theorem tw_1169 : (Jvm.Cond.methodLink "ConstraintTextModel" (255 : Nat) ({ cls := "ConstraintTextModel", name := "put", desc := "(I)V" } : Jvm.MethodName)) ∈ gtb := tc_5 136 (by decide +kernel) rfl
theorem tw_1171 : (Jvm.Cond.instanceMethod ({ cls := "ConstraintTextModel", name := "put", desc := "(I)V" } : Jvm.MethodName)) ∈ gtb := tc_5 138 (by decide +kernel) rfl
theorem tw_1172 : (Jvm.Cond.code ({ cls := "ConstraintTextModel", name := "put", desc := "(I)V" } : Jvm.MethodName) prog_8_method_53_code (2 : Nat) (Option.none : Option Jvm.ClassFile.FieldType)) ∈ gtb := tc_5 139 (by decide +kernel) rfl
theorem tw_1173 : (Jvm.Cond.methodLink "ConstraintTextModel" (262 : Nat) ({ cls := "ConstraintTextModel", name := "putWhole", desc := "(I)V" } : Jvm.MethodName)) ∈ gtb := tc_5 140 (by decide +kernel) rfl
theorem tw_1175 : (Jvm.Cond.instanceMethod ({ cls := "ConstraintTextModel", name := "putWhole", desc := "(I)V" } : Jvm.MethodName)) ∈ gtb := tc_5 142 (by decide +kernel) rfl
theorem tw_1176 : (Jvm.Cond.code ({ cls := "ConstraintTextModel", name := "putWhole", desc := "(I)V" } : Jvm.MethodName) prog_8_method_55_code (4 : Nat) (Option.none : Option Jvm.ClassFile.FieldType)) ∈ gtb := tc_5 143 (by decide +kernel) rfl
theorem tw_1177 : (Jvm.Cond.methodLink "ConstraintTextModel" (265 : Nat) ({ cls := "ConstraintTextModel", name := "putPattern", desc := "(II)V" } : Jvm.MethodName)) ∈ gtb := tc_5 144 (by decide +kernel) rfl
theorem tw_1179 : (Jvm.Cond.instanceMethod ({ cls := "ConstraintTextModel", name := "putPattern", desc := "(II)V" } : Jvm.MethodName)) ∈ gtb := tc_5 146 (by decide +kernel) rfl
theorem tw_1180 : (Jvm.Cond.code ({ cls := "ConstraintTextModel", name := "putPattern", desc := "(II)V" } : Jvm.MethodName) prog_8_method_56_code (5 : Nat) (Option.none : Option Jvm.ClassFile.FieldType)) ∈ gtb := tc_5 147 (by decide +kernel) rfl
theorem tw_1181 : (Jvm.Cond.methodLink "ConstraintTextLaw" (107 : Nat) ({ cls := "ConstraintTextModel", name := "count", desc := "(I)I" } : Jvm.MethodName)) ∈ gtb := tc_5 148 (by decide +kernel) rfl
theorem tw_1182 : (Jvm.Cond.instanceMethod ({ cls := "ConstraintTextModel", name := "count", desc := "(I)I" } : Jvm.MethodName)) ∈ gtb := tc_5 149 (by decide +kernel) rfl
theorem tw_1183 : (Jvm.Cond.selects "ConstraintTextModel" ({ cls := "ConstraintTextModel", name := "count", desc := "(I)I" } : Jvm.MethodName) ({ cls := "ConstraintTextModel", name := "count", desc := "(I)I" } : Jvm.MethodName)) ∈ gtb := tc_5 150 (by decide +kernel) rfl
theorem tw_1184 : (Jvm.Cond.code ({ cls := "ConstraintTextModel", name := "count", desc := "(I)I" } : Jvm.MethodName) prog_8_method_60_code (2 : Nat) (Option.some Jvm.ClassFile.FieldType.int)) ∈ gtb := tc_5 151 (by decide +kernel) rfl
theorem tw_1185 : (Jvm.Cond.sameMethod "java/lang/Throwable" "java/lang/Throwable" "fillInStackTrace" "(I)Ljava/lang/Throwable;") ∈ gtb := tc_5 152 (by decide +kernel) rfl
theorem tw_1186 : (Jvm.Cond.fieldLink "java/lang/String" (9 : Nat) "java/lang/String" "value" "[B") ∈ gtb := tc_5 153 (by decide +kernel) rfl
theorem tw_1187 : (Jvm.Cond.fieldLink "java/lang/String" (15 : Nat) "java/lang/String" "coder" "B") ∈ gtb := tc_5 154 (by decide +kernel) rfl
end
section
theorem dX0_init_0 : decode cX0_init 0 = .ok (.aload_n 0, 1) := by decide +kernel
theorem dX0_init_1 : decode cX0_init 1 = .ok (.invokespecial 3, 3) := by decide +kernel
theorem dX0_init_4 : decode cX0_init 4 = .ok (.aload_n 0, 1) := by decide +kernel
theorem dX0_init_5 : decode cX0_init 5 = .ok (.bipush 12, 2) := by decide +kernel
theorem dX0_init_7 : decode cX0_init 7 = .ok (.newarray .int, 2) := by decide +kernel
theorem dX0_init_9 : decode cX0_init 9 = .ok (.putfield 9, 3) := by decide +kernel
theorem dX0_init_12 : decode cX0_init 12 = .ok (.aload_n 0, 1) := by decide +kernel
theorem dX0_init_13 : decode cX0_init 13 = .ok (.bipush 12, 2) := by decide +kernel
theorem dX0_init_15 : decode cX0_init 15 = .ok (.newarray .int, 2) := by decide +kernel
theorem dX0_init_17 : decode cX0_init 17 = .ok (.putfield 15, 3) := by decide +kernel
theorem dX0_init_20 : decode cX0_init 20 = .ok (.aload_n 0, 1) := by decide +kernel
theorem dX0_init_21 : decode cX0_init 21 = .ok (.bipush 12, 2) := by decide +kernel
theorem dX0_init_23 : decode cX0_init 23 = .ok (.newarray .boolean, 2) := by decide +kernel
theorem dX0_init_25 : decode cX0_init 25 = .ok (.putfield 18, 3) := by decide +kernel
theorem dX0_init_28 : decode cX0_init 28 = .ok (.aload_n 0, 1) := by decide +kernel
theorem dX0_init_29 : decode cX0_init 29 = .ok (.bipush 12, 2) := by decide +kernel
theorem dX0_init_31 : decode cX0_init 31 = .ok (.newarray .int, 2) := by decide +kernel
theorem dX0_init_33 : decode cX0_init 33 = .ok (.putfield 22, 3) := by decide +kernel
theorem dX0_init_36 : decode cX0_init 36 = .ok (.aload_n 0, 1) := by decide +kernel
theorem dX0_init_37 : decode cX0_init 37 = .ok (.bipush 12, 2) := by decide +kernel
theorem dX0_init_39 : decode cX0_init 39 = .ok (.newarray .int, 2) := by decide +kernel
theorem dX0_init_41 : decode cX0_init 41 = .ok (.putfield 25, 3) := by decide +kernel
theorem dX0_init_44 : decode cX0_init 44 = .ok (.aload_n 0, 1) := by decide +kernel
theorem dX0_init_45 : decode cX0_init 45 = .ok (.bipush 12, 2) := by decide +kernel
theorem dX0_init_47 : decode cX0_init 47 = .ok (.newarray .long, 2) := by decide +kernel
theorem dX0_init_49 : decode cX0_init 49 = .ok (.putfield 28, 3) := by decide +kernel
theorem dX0_init_52 : decode cX0_init 52 = .ok (.aload_n 0, 1) := by decide +kernel
theorem dX0_init_53 : decode cX0_init 53 = .ok (.bipush 12, 2) := by decide +kernel
theorem dX0_init_55 : decode cX0_init 55 = .ok (.newarray .long, 2) := by decide +kernel
theorem dX0_init_57 : decode cX0_init 57 = .ok (.putfield 32, 3) := by decide +kernel
theorem dX0_init_60 : decode cX0_init 60 = .ok (.aload_n 0, 1) := by decide +kernel
theorem dX0_init_61 : decode cX0_init 61 = .ok (.bipush 12, 2) := by decide +kernel
theorem dX0_init_63 : decode cX0_init 63 = .ok (.newarray .long, 2) := by decide +kernel
theorem dX0_init_65 : decode cX0_init 65 = .ok (.putfield 35, 3) := by decide +kernel
theorem dX0_init_68 : decode cX0_init 68 = .ok (.aload_n 0, 1) := by decide +kernel
theorem dX0_init_69 : decode cX0_init 69 = .ok (.bipush 12, 2) := by decide +kernel
theorem dX0_init_71 : decode cX0_init 71 = .ok (.newarray .long, 2) := by decide +kernel
theorem dX0_init_73 : decode cX0_init 73 = .ok (.putfield 38, 3) := by decide +kernel
theorem dX0_init_76 : decode cX0_init 76 = .ok (.aload_n 0, 1) := by decide +kernel
theorem dX0_init_77 : decode cX0_init 77 = .ok (.bipush 12, 2) := by decide +kernel
theorem dX0_init_79 : decode cX0_init 79 = .ok (.newarray .boolean, 2) := by decide +kernel
theorem dX0_init_81 : decode cX0_init 81 = .ok (.putfield 41, 3) := by decide +kernel
theorem dX0_init_84 : decode cX0_init 84 = .ok (.aload_n 0, 1) := by decide +kernel
theorem dX0_init_85 : decode cX0_init 85 = .ok (.bipush 12, 2) := by decide +kernel
theorem dX0_init_87 : decode cX0_init 87 = .ok (.newarray .boolean, 2) := by decide +kernel
theorem dX0_init_89 : decode cX0_init 89 = .ok (.putfield 44, 3) := by decide +kernel
theorem dX0_init_92 : decode cX0_init 92 = .ok (.aload_n 0, 1) := by decide +kernel
theorem dX0_init_93 : decode cX0_init 93 = .ok (.iconst 0, 1) := by decide +kernel
theorem dX0_init_94 : decode cX0_init 94 = .ok (.putfield 47, 3) := by decide +kernel
theorem dX0_init_97 : decode cX0_init 97 = .ok (.return_, 1) := by decide +kernel
theorem dX0_has_0 : decode cX0_has 0 = .ok (.iload_n 1, 1) := by decide +kernel
theorem dX0_has_1 : decode cX0_has 1 = .ok (.ifCond .lt 15, 3) := by decide +kernel
theorem dX0_has_4 : decode cX0_has 4 = .ok (.iload_n 1, 1) := by decide +kernel
theorem dX0_has_5 : decode cX0_has 5 = .ok (.aload_n 0, 1) := by decide +kernel
theorem dX0_has_6 : decode cX0_has 6 = .ok (.getfield 47, 3) := by decide +kernel
theorem dX0_has_9 : decode cX0_has 9 = .ok (.if_icmp .ge 7, 3) := by decide +kernel
theorem dX0_has_12 : decode cX0_has 12 = .ok (.iconst 1, 1) := by decide +kernel
theorem dX0_has_13 : decode cX0_has 13 = .ok (.goto 4, 3) := by decide +kernel
theorem dX0_has_16 : decode cX0_has 16 = .ok (.iconst 0, 1) := by decide +kernel
theorem dX0_has_17 : decode cX0_has 17 = .ok (.ireturn, 1) := by decide +kernel
theorem dX0_wipe_0 : decode cX0_wipe 0 = .ok (.aload_n 0, 1) := by decide +kernel
theorem dX0_wipe_1 : decode cX0_wipe 1 = .ok (.iconst 0, 1) := by decide +kernel
theorem dX0_wipe_2 : decode cX0_wipe 2 = .ok (.putfield 47, 3) := by decide +kernel
theorem dX0_wipe_5 : decode cX0_wipe 5 = .ok (.return_, 1) := by decide +kernel
theorem dX0_open_0 : decode cX0_open 0 = .ok (.aload_n 0, 1) := by decide +kernel
theorem dX0_open_1 : decode cX0_open 1 = .ok (.getfield 47, 3) := by decide +kernel
theorem dX0_open_4 : decode cX0_open 4 = .ok (.bipush 12, 2) := by decide +kernel
theorem dX0_open_6 : decode cX0_open 6 = .ok (.if_icmp .ge 53, 3) := by decide +kernel
theorem dX0_open_9 : decode cX0_open 9 = .ok (.aload_n 0, 1) := by decide +kernel
theorem dX0_open_10 : decode cX0_open 10 = .ok (.getfield 9, 3) := by decide +kernel
theorem dX0_open_13 : decode cX0_open 13 = .ok (.aload_n 0, 1) := by decide +kernel
theorem dX0_open_14 : decode cX0_open 14 = .ok (.getfield 47, 3) := by decide +kernel
theorem dX0_open_17 : decode cX0_open 17 = .ok (.iload_n 1, 1) := by decide +kernel
theorem dX0_open_18 : decode cX0_open 18 = .ok (.iastore, 1) := by decide +kernel
theorem dX0_open_19 : decode cX0_open 19 = .ok (.aload_n 0, 1) := by decide +kernel
theorem dX0_open_20 : decode cX0_open 20 = .ok (.getfield 15, 3) := by decide +kernel
theorem dX0_open_23 : decode cX0_open 23 = .ok (.aload_n 0, 1) := by decide +kernel
theorem dX0_open_24 : decode cX0_open 24 = .ok (.getfield 47, 3) := by decide +kernel
theorem dX0_open_27 : decode cX0_open 27 = .ok (.iconst (-1), 1) := by decide +kernel
theorem dX0_open_28 : decode cX0_open 28 = .ok (.iastore, 1) := by decide +kernel
theorem dX0_open_29 : decode cX0_open 29 = .ok (.aload_n 0, 1) := by decide +kernel
theorem dX0_open_30 : decode cX0_open 30 = .ok (.getfield 41, 3) := by decide +kernel
theorem dX0_open_33 : decode cX0_open 33 = .ok (.aload_n 0, 1) := by decide +kernel
theorem dX0_open_34 : decode cX0_open 34 = .ok (.getfield 47, 3) := by decide +kernel
theorem dX0_open_37 : decode cX0_open 37 = .ok (.iconst 0, 1) := by decide +kernel
theorem dX0_open_38 : decode cX0_open 38 = .ok (.bastore, 1) := by decide +kernel
theorem dX0_open_39 : decode cX0_open 39 = .ok (.aload_n 0, 1) := by decide +kernel
theorem dX0_open_40 : decode cX0_open 40 = .ok (.getfield 44, 3) := by decide +kernel
theorem dX0_open_43 : decode cX0_open 43 = .ok (.aload_n 0, 1) := by decide +kernel
theorem dX0_open_44 : decode cX0_open 44 = .ok (.getfield 47, 3) := by decide +kernel
theorem dX0_open_47 : decode cX0_open 47 = .ok (.iconst 0, 1) := by decide +kernel
theorem dX0_open_48 : decode cX0_open 48 = .ok (.bastore, 1) := by decide +kernel
theorem dX0_open_49 : decode cX0_open 49 = .ok (.aload_n 0, 1) := by decide +kernel
theorem dX0_open_50 : decode cX0_open 50 = .ok (.dup, 1) := by decide +kernel
theorem dX0_open_51 : decode cX0_open 51 = .ok (.getfield 47, 3) := by decide +kernel
theorem dX0_open_54 : decode cX0_open 54 = .ok (.iconst 1, 1) := by decide +kernel
theorem dX0_open_55 : decode cX0_open 55 = .ok (.iadd, 1) := by decide +kernel
theorem dX0_open_56 : decode cX0_open 56 = .ok (.putfield 47, 3) := by decide +kernel
theorem dX0_open_59 : decode cX0_open 59 = .ok (.return_, 1) := by decide +kernel
theorem dX0_setTimes_0 : decode cX0_setTimes 0 = .ok (.aload_n 0, 1) := by decide +kernel
theorem dX0_setTimes_1 : decode cX0_setTimes 1 = .ok (.getfield 47, 3) := by decide +kernel
theorem dX0_setTimes_4 : decode cX0_setTimes 4 = .ok (.iconst 1, 1) := by decide +kernel
theorem dX0_setTimes_5 : decode cX0_setTimes 5 = .ok (.isub, 1) := by decide +kernel
theorem dX0_setTimes_6 : decode cX0_setTimes 6 = .ok (.istore 4, 2) := by decide +kernel
theorem dX0_setTimes_8 : decode cX0_setTimes 8 = .ok (.aload_n 0, 1) := by decide +kernel
theorem dX0_setTimes_9 : decode cX0_setTimes 9 = .ok (.iload 4, 2) := by decide +kernel
theorem dX0_setTimes_11 : decode cX0_setTimes 11 = .ok (.invokevirtual 51, 3) := by decide +kernel
theorem dX0_setTimes_14 : decode cX0_setTimes 14 = .ok (.ifCond .eq 46, 3) := by decide +kernel
theorem dX0_setTimes_17 : decode cX0_setTimes 17 = .ok (.aload_n 0, 1) := by decide +kernel
theorem dX0_setTimes_18 : decode cX0_setTimes 18 = .ok (.getfield 28, 3) := by decide +kernel
theorem dX0_setTimes_21 : decode cX0_setTimes 21 = .ok (.iload 4, 2) := by decide +kernel
theorem dX0_setTimes_23 : decode cX0_setTimes 23 = .ok (.iload_n 1, 1) := by decide +kernel
theorem dX0_setTimes_24 : decode cX0_setTimes 24 = .ok (.i2l, 1) := by decide +kernel
theorem dX0_setTimes_25 : decode cX0_setTimes 25 = .ok (.lastore, 1) := by decide +kernel
theorem dX0_setTimes_26 : decode cX0_setTimes 26 = .ok (.aload_n 0, 1) := by decide +kernel
theorem dX0_setTimes_27 : decode cX0_setTimes 27 = .ok (.getfield 32, 3) := by decide +kernel
theorem dX0_setTimes_30 : decode cX0_setTimes 30 = .ok (.iload 4, 2) := by decide +kernel
theorem dX0_setTimes_32 : decode cX0_setTimes 32 = .ok (.iload_n 2, 1) := by decide +kernel
theorem dX0_setTimes_33 : decode cX0_setTimes 33 = .ok (.i2l, 1) := by decide +kernel
theorem dX0_setTimes_34 : decode cX0_setTimes 34 = .ok (.lastore, 1) := by decide +kernel
theorem dX0_setTimes_35 : decode cX0_setTimes 35 = .ok (.aload_n 0, 1) := by decide +kernel
theorem dX0_setTimes_36 : decode cX0_setTimes 36 = .ok (.getfield 35, 3) := by decide +kernel
theorem dX0_setTimes_39 : decode cX0_setTimes 39 = .ok (.iload 4, 2) := by decide +kernel
theorem dX0_setTimes_41 : decode cX0_setTimes 41 = .ok (.iload_n 3, 1) := by decide +kernel
theorem dX0_setTimes_42 : decode cX0_setTimes 42 = .ok (.i2l, 1) := by decide +kernel
theorem dX0_setTimes_43 : decode cX0_setTimes 43 = .ok (.lastore, 1) := by decide +kernel
theorem dX0_setTimes_44 : decode cX0_setTimes 44 = .ok (.aload_n 0, 1) := by decide +kernel
theorem dX0_setTimes_45 : decode cX0_setTimes 45 = .ok (.getfield 38, 3) := by decide +kernel
theorem dX0_setTimes_48 : decode cX0_setTimes 48 = .ok (.iload 4, 2) := by decide +kernel
theorem dX0_setTimes_50 : decode cX0_setTimes 50 = .ok (.lconst 1, 1) := by decide +kernel
theorem dX0_setTimes_51 : decode cX0_setTimes 51 = .ok (.lastore, 1) := by decide +kernel
theorem dX0_setTimes_52 : decode cX0_setTimes 52 = .ok (.aload_n 0, 1) := by decide +kernel
theorem dX0_setTimes_53 : decode cX0_setTimes 53 = .ok (.getfield 41, 3) := by decide +kernel
theorem dX0_setTimes_56 : decode cX0_setTimes 56 = .ok (.iload 4, 2) := by decide +kernel
theorem dX0_setTimes_58 : decode cX0_setTimes 58 = .ok (.iconst 1, 1) := by decide +kernel
theorem dX0_setTimes_59 : decode cX0_setTimes 59 = .ok (.bastore, 1) := by decide +kernel
theorem dX0_setTimes_60 : decode cX0_setTimes 60 = .ok (.return_, 1) := by decide +kernel
theorem dX0_setRatio_0 : decode cX0_setRatio 0 = .ok (.aload_n 0, 1) := by decide +kernel
theorem dX0_setRatio_1 : decode cX0_setRatio 1 = .ok (.getfield 47, 3) := by decide +kernel
theorem dX0_setRatio_4 : decode cX0_setRatio 4 = .ok (.iconst 1, 1) := by decide +kernel
theorem dX0_setRatio_5 : decode cX0_setRatio 5 = .ok (.isub, 1) := by decide +kernel
theorem dX0_setRatio_6 : decode cX0_setRatio 6 = .ok (.istore 4, 2) := by decide +kernel
theorem dX0_setRatio_8 : decode cX0_setRatio 8 = .ok (.aload_n 0, 1) := by decide +kernel
theorem dX0_setRatio_9 : decode cX0_setRatio 9 = .ok (.iload 4, 2) := by decide +kernel
theorem dX0_setRatio_11 : decode cX0_setRatio 11 = .ok (.invokevirtual 51, 3) := by decide +kernel
theorem dX0_setRatio_14 : decode cX0_setRatio 14 = .ok (.ifCond .eq 27, 3) := by decide +kernel
theorem dX0_setRatio_17 : decode cX0_setRatio 17 = .ok (.aload_n 0, 1) := by decide +kernel
theorem dX0_setRatio_18 : decode cX0_setRatio 18 = .ok (.getfield 22, 3) := by decide +kernel
theorem dX0_setRatio_21 : decode cX0_setRatio 21 = .ok (.iload 4, 2) := by decide +kernel
theorem dX0_setRatio_23 : decode cX0_setRatio 23 = .ok (.iload_n 1, 1) := by decide +kernel
theorem dX0_setRatio_24 : decode cX0_setRatio 24 = .ok (.iastore, 1) := by decide +kernel
theorem dX0_setRatio_25 : decode cX0_setRatio 25 = .ok (.aload_n 0, 1) := by decide +kernel
theorem dX0_setRatio_26 : decode cX0_setRatio 26 = .ok (.getfield 25, 3) := by decide +kernel
theorem dX0_setRatio_29 : decode cX0_setRatio 29 = .ok (.iload 4, 2) := by decide +kernel
theorem dX0_setRatio_31 : decode cX0_setRatio 31 = .ok (.iload_n 2, 1) := by decide +kernel
theorem dX0_setRatio_32 : decode cX0_setRatio 32 = .ok (.iastore, 1) := by decide +kernel
theorem dX0_setRatio_33 : decode cX0_setRatio 33 = .ok (.aload_n 0, 1) := by decide +kernel
theorem dX0_setRatio_34 : decode cX0_setRatio 34 = .ok (.getfield 18, 3) := by decide +kernel
theorem dX0_setRatio_37 : decode cX0_setRatio 37 = .ok (.iload 4, 2) := by decide +kernel
theorem dX0_setRatio_39 : decode cX0_setRatio 39 = .ok (.iload_n 3, 1) := by decide +kernel
theorem dX0_setRatio_40 : decode cX0_setRatio 40 = .ok (.bastore, 1) := by decide +kernel
theorem dX0_setRatio_41 : decode cX0_setRatio 41 = .ok (.return_, 1) := by decide +kernel
theorem dX0_inRing_0 : decode cX0_inRing 0 = .ok (.iload_n 1, 1) := by decide +kernel
theorem dX0_inRing_1 : decode cX0_inRing 1 = .ok (.istore_n 2, 1) := by decide +kernel
theorem dX0_inRing_2 : decode cX0_inRing 2 = .ok (.iconst 0, 1) := by decide +kernel
theorem dX0_inRing_3 : decode cX0_inRing 3 = .ok (.istore_n 3, 1) := by decide +kernel
theorem dX0_inRing_4 : decode cX0_inRing 4 = .ok (.iload_n 3, 1) := by decide +kernel
theorem dX0_inRing_5 : decode cX0_inRing 5 = .ok (.bipush 12, 2) := by decide +kernel
theorem dX0_inRing_7 : decode cX0_inRing 7 = .ok (.if_icmp .ge 31, 3) := by decide +kernel
theorem dX0_inRing_10 : decode cX0_inRing 10 = .ok (.aload_n 0, 1) := by decide +kernel
theorem dX0_inRing_11 : decode cX0_inRing 11 = .ok (.iload_n 2, 1) := by decide +kernel
theorem dX0_inRing_12 : decode cX0_inRing 12 = .ok (.invokevirtual 51, 3) := by decide +kernel
theorem dX0_inRing_15 : decode cX0_inRing 15 = .ok (.ifCond .eq 23, 3) := by decide +kernel
theorem dX0_inRing_18 : decode cX0_inRing 18 = .ok (.aload_n 0, 1) := by decide +kernel
theorem dX0_inRing_19 : decode cX0_inRing 19 = .ok (.getfield 15, 3) := by decide +kernel
theorem dX0_inRing_22 : decode cX0_inRing 22 = .ok (.iload_n 2, 1) := by decide +kernel
theorem dX0_inRing_23 : decode cX0_inRing 23 = .ok (.iaload, 1) := by decide +kernel
theorem dX0_inRing_24 : decode cX0_inRing 24 = .ok (.istore_n 2, 1) := by decide +kernel
theorem dX0_inRing_25 : decode cX0_inRing 25 = .ok (.iload_n 2, 1) := by decide +kernel
theorem dX0_inRing_26 : decode cX0_inRing 26 = .ok (.iload_n 1, 1) := by decide +kernel
theorem dX0_inRing_27 : decode cX0_inRing 27 = .ok (.if_icmp .ne 5, 3) := by decide +kernel
theorem dX0_inRing_30 : decode cX0_inRing 30 = .ok (.iconst 1, 1) := by decide +kernel
theorem dX0_inRing_31 : decode cX0_inRing 31 = .ok (.ireturn, 1) := by decide +kernel
theorem dX0_inRing_32 : decode cX0_inRing 32 = .ok (.iinc 3 1, 3) := by decide +kernel
theorem dX0_inRing_35 : decode cX0_inRing 35 = .ok (.goto (-31), 3) := by decide +kernel
theorem dX0_inRing_38 : decode cX0_inRing 38 = .ok (.iconst 0, 1) := by decide +kernel
theorem dX0_inRing_39 : decode cX0_inRing 39 = .ok (.ireturn, 1) := by decide +kernel
theorem dX0_settleAll_0 : decode cX0_settleAll 0 = .ok (.iconst 0, 1) := by decide +kernel
theorem dX0_settleAll_1 : decode cX0_settleAll 1 = .ok (.istore_n 1, 1) := by decide +kernel
theorem dX0_settleAll_2 : decode cX0_settleAll 2 = .ok (.iload_n 1, 1) := by decide +kernel
theorem dX0_settleAll_3 : decode cX0_settleAll 3 = .ok (.aload_n 0, 1) := by decide +kernel
theorem dX0_settleAll_4 : decode cX0_settleAll 4 = .ok (.getfield 47, 3) := by decide +kernel
theorem dX0_settleAll_7 : decode cX0_settleAll 7 = .ok (.if_icmp .ge 64, 3) := by decide +kernel
theorem dX0_settleAll_10 : decode cX0_settleAll 10 = .ok (.iconst 0, 1) := by decide +kernel
theorem dX0_settleAll_11 : decode cX0_settleAll 11 = .ok (.istore_n 2, 1) := by decide +kernel
theorem dX0_settleAll_12 : decode cX0_settleAll 12 = .ok (.iload_n 2, 1) := by decide +kernel
theorem dX0_settleAll_13 : decode cX0_settleAll 13 = .ok (.aload_n 0, 1) := by decide +kernel
theorem dX0_settleAll_14 : decode cX0_settleAll 14 = .ok (.getfield 47, 3) := by decide +kernel
theorem dX0_settleAll_17 : decode cX0_settleAll 17 = .ok (.if_icmp .ge 48, 3) := by decide +kernel
theorem dX0_settleAll_20 : decode cX0_settleAll 20 = .ok (.aload_n 0, 1) := by decide +kernel
theorem dX0_settleAll_21 : decode cX0_settleAll 21 = .ok (.getfield 15, 3) := by decide +kernel
theorem dX0_settleAll_24 : decode cX0_settleAll 24 = .ok (.iload_n 2, 1) := by decide +kernel
theorem dX0_settleAll_25 : decode cX0_settleAll 25 = .ok (.iaload, 1) := by decide +kernel
theorem dX0_settleAll_26 : decode cX0_settleAll 26 = .ok (.istore_n 3, 1) := by decide +kernel
theorem dX0_settleAll_27 : decode cX0_settleAll 27 = .ok (.aload_n 0, 1) := by decide +kernel
theorem dX0_settleAll_28 : decode cX0_settleAll 28 = .ok (.getfield 41, 3) := by decide +kernel
theorem dX0_settleAll_31 : decode cX0_settleAll 31 = .ok (.iload_n 2, 1) := by decide +kernel
theorem dX0_settleAll_32 : decode cX0_settleAll 32 = .ok (.baload, 1) := by decide +kernel
theorem dX0_settleAll_33 : decode cX0_settleAll 33 = .ok (.ifCond .ne 26, 3) := by decide +kernel
theorem dX0_settleAll_36 : decode cX0_settleAll 36 = .ok (.aload_n 0, 1) := by decide +kernel
theorem dX0_settleAll_37 : decode cX0_settleAll 37 = .ok (.iload_n 3, 1) := by decide +kernel
theorem dX0_settleAll_38 : decode cX0_settleAll 38 = .ok (.invokevirtual 51, 3) := by decide +kernel
theorem dX0_settleAll_41 : decode cX0_settleAll 41 = .ok (.ifCond .eq 18, 3) := by decide +kernel
theorem dX0_settleAll_44 : decode cX0_settleAll 44 = .ok (.aload_n 0, 1) := by decide +kernel
theorem dX0_settleAll_45 : decode cX0_settleAll 45 = .ok (.getfield 41, 3) := by decide +kernel
theorem dX0_settleAll_48 : decode cX0_settleAll 48 = .ok (.iload_n 3, 1) := by decide +kernel
theorem dX0_settleAll_49 : decode cX0_settleAll 49 = .ok (.baload, 1) := by decide +kernel
theorem dX0_settleAll_50 : decode cX0_settleAll 50 = .ok (.ifCond .eq 9, 3) := by decide +kernel
theorem dX0_settleAll_53 : decode cX0_settleAll 53 = .ok (.aload_n 0, 1) := by decide +kernel
theorem dX0_settleAll_54 : decode cX0_settleAll 54 = .ok (.iload_n 2, 1) := by decide +kernel
theorem dX0_settleAll_55 : decode cX0_settleAll 55 = .ok (.iload_n 3, 1) := by decide +kernel
theorem dX0_settleAll_56 : decode cX0_settleAll 56 = .ok (.invokevirtual 55, 3) := by decide +kernel
theorem dX0_settleAll_59 : decode cX0_settleAll 59 = .ok (.iinc 2 1, 3) := by decide +kernel
theorem dX0_settleAll_62 : decode cX0_settleAll 62 = .ok (.goto (-50), 3) := by decide +kernel
theorem dX0_settleAll_65 : decode cX0_settleAll 65 = .ok (.iinc 1 1, 3) := by decide +kernel
theorem dX0_settleAll_68 : decode cX0_settleAll 68 = .ok (.goto (-66), 3) := by decide +kernel
theorem dX0_settleAll_71 : decode cX0_settleAll 71 = .ok (.return_, 1) := by decide +kernel
theorem dX0_settle_0 : decode cX0_settle 0 = .ok (.aload_n 0, 1) := by decide +kernel
theorem dX0_settle_1 : decode cX0_settle 1 = .ok (.getfield 41, 3) := by decide +kernel
theorem dX0_settle_4 : decode cX0_settle 4 = .ok (.iload_n 1, 1) := by decide +kernel
theorem dX0_settle_5 : decode cX0_settle 5 = .ok (.iconst 1, 1) := by decide +kernel
theorem dX0_settle_6 : decode cX0_settle 6 = .ok (.bastore, 1) := by decide +kernel
theorem dX0_settle_7 : decode cX0_settle 7 = .ok (.aload_n 0, 1) := by decide +kernel
theorem dX0_settle_8 : decode cX0_settle 8 = .ok (.getfield 44, 3) := by decide +kernel
theorem dX0_settle_11 : decode cX0_settle 11 = .ok (.iload_n 1, 1) := by decide +kernel
theorem dX0_settle_12 : decode cX0_settle 12 = .ok (.aload_n 0, 1) := by decide +kernel
theorem dX0_settle_13 : decode cX0_settle 13 = .ok (.getfield 44, 3) := by decide +kernel
theorem dX0_settle_16 : decode cX0_settle 16 = .ok (.iload_n 2, 1) := by decide +kernel
theorem dX0_settle_17 : decode cX0_settle 17 = .ok (.baload, 1) := by decide +kernel
theorem dX0_settle_18 : decode cX0_settle 18 = .ok (.bastore, 1) := by decide +kernel
theorem dX0_settle_19 : decode cX0_settle 19 = .ok (.aload_n 0, 1) := by decide +kernel
theorem dX0_settle_20 : decode cX0_settle 20 = .ok (.getfield 44, 3) := by decide +kernel
theorem dX0_settle_23 : decode cX0_settle 23 = .ok (.iload_n 2, 1) := by decide +kernel
theorem dX0_settle_24 : decode cX0_settle 24 = .ok (.baload, 1) := by decide +kernel
theorem dX0_settle_25 : decode cX0_settle 25 = .ok (.ifCond .eq 4, 3) := by decide +kernel
theorem dX0_settle_28 : decode cX0_settle 28 = .ok (.return_, 1) := by decide +kernel
theorem dX0_settle_29 : decode cX0_settle 29 = .ok (.aload_n 0, 1) := by decide +kernel
theorem dX0_settle_30 : decode cX0_settle 30 = .ok (.getfield 28, 3) := by decide +kernel
theorem dX0_settle_33 : decode cX0_settle 33 = .ok (.iload_n 2, 1) := by decide +kernel
theorem dX0_settle_34 : decode cX0_settle 34 = .ok (.laload, 1) := by decide +kernel
theorem dX0_settle_35 : decode cX0_settle 35 = .ok (.aload_n 0, 1) := by decide +kernel
theorem dX0_settle_36 : decode cX0_settle 36 = .ok (.getfield 22, 3) := by decide +kernel
theorem dX0_settle_39 : decode cX0_settle 39 = .ok (.iload_n 1, 1) := by decide +kernel
theorem dX0_settle_40 : decode cX0_settle 40 = .ok (.iaload, 1) := by decide +kernel
theorem dX0_settle_41 : decode cX0_settle 41 = .ok (.i2l, 1) := by decide +kernel
theorem dX0_settle_42 : decode cX0_settle 42 = .ok (.lmul, 1) := by decide +kernel
theorem dX0_settle_43 : decode cX0_settle 43 = .ok (.lstore_n 3, 1) := by decide +kernel
theorem dX0_settle_44 : decode cX0_settle 44 = .ok (.aload_n 0, 1) := by decide +kernel
theorem dX0_settle_45 : decode cX0_settle 45 = .ok (.getfield 18, 3) := by decide +kernel
theorem dX0_settle_48 : decode cX0_settle 48 = .ok (.iload_n 1, 1) := by decide +kernel
theorem dX0_settle_49 : decode cX0_settle 49 = .ok (.baload, 1) := by decide +kernel
theorem dX0_settle_50 : decode cX0_settle 50 = .ok (.ifCond .eq 12, 3) := by decide +kernel
theorem dX0_settle_53 : decode cX0_settle 53 = .ok (.aload_n 0, 1) := by decide +kernel
theorem dX0_settle_54 : decode cX0_settle 54 = .ok (.getfield 35, 3) := by decide +kernel
theorem dX0_settle_57 : decode cX0_settle 57 = .ok (.iload_n 2, 1) := by decide +kernel
theorem dX0_settle_58 : decode cX0_settle 58 = .ok (.laload, 1) := by decide +kernel
theorem dX0_settle_59 : decode cX0_settle 59 = .ok (.goto 9, 3) := by decide +kernel
theorem dX0_settle_62 : decode cX0_settle 62 = .ok (.aload_n 0, 1) := by decide +kernel
theorem dX0_settle_63 : decode cX0_settle 63 = .ok (.getfield 32, 3) := by decide +kernel
theorem dX0_settle_66 : decode cX0_settle 66 = .ok (.iload_n 2, 1) := by decide +kernel
theorem dX0_settle_67 : decode cX0_settle 67 = .ok (.laload, 1) := by decide +kernel
theorem dX0_settle_68 : decode cX0_settle 68 = .ok (.aload_n 0, 1) := by decide +kernel
theorem dX0_settle_69 : decode cX0_settle 69 = .ok (.getfield 22, 3) := by decide +kernel
theorem dX0_settle_72 : decode cX0_settle 72 = .ok (.iload_n 1, 1) := by decide +kernel
theorem dX0_settle_73 : decode cX0_settle 73 = .ok (.iaload, 1) := by decide +kernel
theorem dX0_settle_74 : decode cX0_settle 74 = .ok (.i2l, 1) := by decide +kernel
theorem dX0_settle_75 : decode cX0_settle 75 = .ok (.lmul, 1) := by decide +kernel
theorem dX0_settle_76 : decode cX0_settle 76 = .ok (.lstore 5, 2) := by decide +kernel
theorem dX0_settle_78 : decode cX0_settle 78 = .ok (.aload_n 0, 1) := by decide +kernel
theorem dX0_settle_79 : decode cX0_settle 79 = .ok (.getfield 18, 3) := by decide +kernel
theorem dX0_settle_82 : decode cX0_settle 82 = .ok (.iload_n 1, 1) := by decide +kernel
theorem dX0_settle_83 : decode cX0_settle 83 = .ok (.baload, 1) := by decide +kernel
theorem dX0_settle_84 : decode cX0_settle 84 = .ok (.ifCond .eq 12, 3) := by decide +kernel
theorem dX0_settle_87 : decode cX0_settle 87 = .ok (.aload_n 0, 1) := by decide +kernel
theorem dX0_settle_88 : decode cX0_settle 88 = .ok (.getfield 32, 3) := by decide +kernel
theorem dX0_settle_91 : decode cX0_settle 91 = .ok (.iload_n 2, 1) := by decide +kernel
theorem dX0_settle_92 : decode cX0_settle 92 = .ok (.laload, 1) := by decide +kernel
theorem dX0_settle_93 : decode cX0_settle 93 = .ok (.goto 9, 3) := by decide +kernel
theorem dX0_settle_96 : decode cX0_settle 96 = .ok (.aload_n 0, 1) := by decide +kernel
theorem dX0_settle_97 : decode cX0_settle 97 = .ok (.getfield 35, 3) := by decide +kernel
theorem dX0_settle_100 : decode cX0_settle 100 = .ok (.iload_n 2, 1) := by decide +kernel
theorem dX0_settle_101 : decode cX0_settle 101 = .ok (.laload, 1) := by decide +kernel
theorem dX0_settle_102 : decode cX0_settle 102 = .ok (.aload_n 0, 1) := by decide +kernel
theorem dX0_settle_103 : decode cX0_settle 103 = .ok (.getfield 22, 3) := by decide +kernel
theorem dX0_settle_106 : decode cX0_settle 106 = .ok (.iload_n 1, 1) := by decide +kernel
theorem dX0_settle_107 : decode cX0_settle 107 = .ok (.iaload, 1) := by decide +kernel
theorem dX0_settle_108 : decode cX0_settle 108 = .ok (.i2l, 1) := by decide +kernel
theorem dX0_settle_109 : decode cX0_settle 109 = .ok (.lmul, 1) := by decide +kernel
theorem dX0_settle_110 : decode cX0_settle 110 = .ok (.lstore 7, 2) := by decide +kernel
theorem dX0_settle_112 : decode cX0_settle 112 = .ok (.aload_n 0, 1) := by decide +kernel
theorem dX0_settle_113 : decode cX0_settle 113 = .ok (.getfield 38, 3) := by decide +kernel
theorem dX0_settle_116 : decode cX0_settle 116 = .ok (.iload_n 2, 1) := by decide +kernel
theorem dX0_settle_117 : decode cX0_settle 117 = .ok (.laload, 1) := by decide +kernel
theorem dX0_settle_118 : decode cX0_settle 118 = .ok (.aload_n 0, 1) := by decide +kernel
theorem dX0_settle_119 : decode cX0_settle 119 = .ok (.getfield 25, 3) := by decide +kernel
theorem dX0_settle_122 : decode cX0_settle 122 = .ok (.iload_n 1, 1) := by decide +kernel
theorem dX0_settle_123 : decode cX0_settle 123 = .ok (.iaload, 1) := by decide +kernel
theorem dX0_settle_124 : decode cX0_settle 124 = .ok (.i2l, 1) := by decide +kernel
theorem dX0_settle_125 : decode cX0_settle 125 = .ok (.lmul, 1) := by decide +kernel
theorem dX0_settle_126 : decode cX0_settle 126 = .ok (.lstore 9, 2) := by decide +kernel
theorem dX0_settle_128 : decode cX0_settle 128 = .ok (.lload_n 3, 1) := by decide +kernel
theorem dX0_settle_129 : decode cX0_settle 129 = .ok (.lload 5, 2) := by decide +kernel
theorem dX0_settle_131 : decode cX0_settle 131 = .ok (.invokestatic 59, 3) := by decide +kernel
theorem dX0_settle_134 : decode cX0_settle 134 = .ok (.lload 7, 2) := by decide +kernel
theorem dX0_settle_136 : decode cX0_settle 136 = .ok (.lload 9, 2) := by decide +kernel
theorem dX0_settle_138 : decode cX0_settle 138 = .ok (.invokestatic 59, 3) := by decide +kernel
theorem dX0_settle_141 : decode cX0_settle 141 = .ok (.invokestatic 59, 3) := by decide +kernel
theorem dX0_settle_144 : decode cX0_settle 144 = .ok (.lstore 11, 2) := by decide +kernel
theorem dX0_settle_146 : decode cX0_settle 146 = .ok (.aload_n 0, 1) := by decide +kernel
theorem dX0_settle_147 : decode cX0_settle 147 = .ok (.getfield 28, 3) := by decide +kernel
theorem dX0_settle_150 : decode cX0_settle 150 = .ok (.iload_n 1, 1) := by decide +kernel
theorem dX0_settle_151 : decode cX0_settle 151 = .ok (.lload_n 3, 1) := by decide +kernel
theorem dX0_settle_152 : decode cX0_settle 152 = .ok (.lload 11, 2) := by decide +kernel
theorem dX0_settle_154 : decode cX0_settle 154 = .ok (.ldiv, 1) := by decide +kernel
theorem dX0_settle_155 : decode cX0_settle 155 = .ok (.lastore, 1) := by decide +kernel
theorem dX0_settle_156 : decode cX0_settle 156 = .ok (.aload_n 0, 1) := by decide +kernel
theorem dX0_settle_157 : decode cX0_settle 157 = .ok (.getfield 32, 3) := by decide +kernel
theorem dX0_settle_160 : decode cX0_settle 160 = .ok (.iload_n 1, 1) := by decide +kernel
theorem dX0_settle_161 : decode cX0_settle 161 = .ok (.lload 5, 2) := by decide +kernel
theorem dX0_settle_163 : decode cX0_settle 163 = .ok (.lload 11, 2) := by decide +kernel
theorem dX0_settle_165 : decode cX0_settle 165 = .ok (.ldiv, 1) := by decide +kernel
theorem dX0_settle_166 : decode cX0_settle 166 = .ok (.lastore, 1) := by decide +kernel
theorem dX0_settle_167 : decode cX0_settle 167 = .ok (.aload_n 0, 1) := by decide +kernel
theorem dX0_settle_168 : decode cX0_settle 168 = .ok (.getfield 35, 3) := by decide +kernel
theorem dX0_settle_171 : decode cX0_settle 171 = .ok (.iload_n 1, 1) := by decide +kernel
theorem dX0_settle_172 : decode cX0_settle 172 = .ok (.lload 7, 2) := by decide +kernel
theorem dX0_settle_174 : decode cX0_settle 174 = .ok (.lload 11, 2) := by decide +kernel
theorem dX0_settle_176 : decode cX0_settle 176 = .ok (.ldiv, 1) := by decide +kernel
theorem dX0_settle_177 : decode cX0_settle 177 = .ok (.lastore, 1) := by decide +kernel
theorem dX0_settle_178 : decode cX0_settle 178 = .ok (.aload_n 0, 1) := by decide +kernel
theorem dX0_settle_179 : decode cX0_settle 179 = .ok (.getfield 38, 3) := by decide +kernel
theorem dX0_settle_182 : decode cX0_settle 182 = .ok (.iload_n 1, 1) := by decide +kernel
theorem dX0_settle_183 : decode cX0_settle 183 = .ok (.lload 9, 2) := by decide +kernel
theorem dX0_settle_185 : decode cX0_settle 185 = .ok (.lload 11, 2) := by decide +kernel
theorem dX0_settle_187 : decode cX0_settle 187 = .ok (.ldiv, 1) := by decide +kernel
theorem dX0_settle_188 : decode cX0_settle 188 = .ok (.lastore, 1) := by decide +kernel
theorem dX0_settle_189 : decode cX0_settle 189 = .ok (.aload_n 0, 1) := by decide +kernel
theorem dX0_settle_190 : decode cX0_settle 190 = .ok (.getfield 44, 3) := by decide +kernel
theorem dX0_settle_193 : decode cX0_settle 193 = .ok (.iload_n 1, 1) := by decide +kernel
theorem dX0_settle_194 : decode cX0_settle 194 = .ok (.aload_n 0, 1) := by decide +kernel
theorem dX0_settle_195 : decode cX0_settle 195 = .ok (.getfield 28, 3) := by decide +kernel
theorem dX0_settle_198 : decode cX0_settle 198 = .ok (.iload_n 1, 1) := by decide +kernel
theorem dX0_settle_199 : decode cX0_settle 199 = .ok (.laload, 1) := by decide +kernel
theorem dX0_settle_200 : decode cX0_settle 200 = .ok (.ldc2_w 63, 3) := by decide +kernel
theorem dX0_settle_203 : decode cX0_settle 203 = .ok (.lcmp, 1) := by decide +kernel
theorem dX0_settle_204 : decode cX0_settle 204 = .ok (.ifCond .gt 16, 3) := by decide +kernel
theorem dX0_settle_207 : decode cX0_settle 207 = .ok (.aload_n 0, 1) := by decide +kernel
theorem dX0_settle_208 : decode cX0_settle 208 = .ok (.getfield 38, 3) := by decide +kernel
theorem dX0_settle_211 : decode cX0_settle 211 = .ok (.iload_n 1, 1) := by decide +kernel
theorem dX0_settle_212 : decode cX0_settle 212 = .ok (.laload, 1) := by decide +kernel
theorem dX0_settle_213 : decode cX0_settle 213 = .ok (.ldc2_w 63, 3) := by decide +kernel
theorem dX0_settle_216 : decode cX0_settle 216 = .ok (.lcmp, 1) := by decide +kernel
theorem dX0_settle_217 : decode cX0_settle 217 = .ok (.ifCond .le 7, 3) := by decide +kernel
theorem dX0_settle_220 : decode cX0_settle 220 = .ok (.iconst 1, 1) := by decide +kernel
theorem dX0_settle_221 : decode cX0_settle 221 = .ok (.goto 4, 3) := by decide +kernel
theorem dX0_settle_224 : decode cX0_settle 224 = .ok (.iconst 0, 1) := by decide +kernel
theorem dX0_settle_225 : decode cX0_settle 225 = .ok (.bastore, 1) := by decide +kernel
theorem dX0_settle_226 : decode cX0_settle 226 = .ok (.return_, 1) := by decide +kernel
theorem dX0_fact_0 : decode cX0_fact 0 = .ok (.aload_n 0, 1) := by decide +kernel
theorem dX0_fact_1 : decode cX0_fact 1 = .ok (.iload_n 1, 1) := by decide +kernel
theorem dX0_fact_2 : decode cX0_fact 2 = .ok (.invokevirtual 51, 3) := by decide +kernel
theorem dX0_fact_5 : decode cX0_fact 5 = .ok (.ifCond .ne 5, 3) := by decide +kernel
theorem dX0_fact_8 : decode cX0_fact 8 = .ok (.iconst (-1), 1) := by decide +kernel
theorem dX0_fact_9 : decode cX0_fact 9 = .ok (.ireturn, 1) := by decide +kernel
theorem dX0_fact_10 : decode cX0_fact 10 = .ok (.iload_n 2, 1) := by decide +kernel
theorem dX0_fact_11 : decode cX0_fact 11 = .ok (.tableswitch 72 0 4 #[33, 41, 49, 57, 65], 33) := by decide +kernel
theorem dX0_fact_44 : decode cX0_fact 44 = .ok (.aload_n 0, 1) := by decide +kernel
theorem dX0_fact_45 : decode cX0_fact 45 = .ok (.getfield 28, 3) := by decide +kernel
theorem dX0_fact_48 : decode cX0_fact 48 = .ok (.iload_n 1, 1) := by decide +kernel
theorem dX0_fact_49 : decode cX0_fact 49 = .ok (.laload, 1) := by decide +kernel
theorem dX0_fact_50 : decode cX0_fact 50 = .ok (.l2i, 1) := by decide +kernel
theorem dX0_fact_51 : decode cX0_fact 51 = .ok (.ireturn, 1) := by decide +kernel
theorem dX0_fact_52 : decode cX0_fact 52 = .ok (.aload_n 0, 1) := by decide +kernel
theorem dX0_fact_53 : decode cX0_fact 53 = .ok (.getfield 32, 3) := by decide +kernel
theorem dX0_fact_56 : decode cX0_fact 56 = .ok (.iload_n 1, 1) := by decide +kernel
theorem dX0_fact_57 : decode cX0_fact 57 = .ok (.laload, 1) := by decide +kernel
theorem dX0_fact_58 : decode cX0_fact 58 = .ok (.l2i, 1) := by decide +kernel
theorem dX0_fact_59 : decode cX0_fact 59 = .ok (.ireturn, 1) := by decide +kernel
theorem dX0_fact_60 : decode cX0_fact 60 = .ok (.aload_n 0, 1) := by decide +kernel
theorem dX0_fact_61 : decode cX0_fact 61 = .ok (.getfield 35, 3) := by decide +kernel
theorem dX0_fact_64 : decode cX0_fact 64 = .ok (.iload_n 1, 1) := by decide +kernel
theorem dX0_fact_65 : decode cX0_fact 65 = .ok (.laload, 1) := by decide +kernel
theorem dX0_fact_66 : decode cX0_fact 66 = .ok (.l2i, 1) := by decide +kernel
theorem dX0_fact_67 : decode cX0_fact 67 = .ok (.ireturn, 1) := by decide +kernel
theorem dX0_fact_68 : decode cX0_fact 68 = .ok (.aload_n 0, 1) := by decide +kernel
theorem dX0_fact_69 : decode cX0_fact 69 = .ok (.getfield 38, 3) := by decide +kernel
theorem dX0_fact_72 : decode cX0_fact 72 = .ok (.iload_n 1, 1) := by decide +kernel
theorem dX0_fact_73 : decode cX0_fact 73 = .ok (.laload, 1) := by decide +kernel
theorem dX0_fact_74 : decode cX0_fact 74 = .ok (.l2i, 1) := by decide +kernel
theorem dX0_fact_75 : decode cX0_fact 75 = .ok (.ireturn, 1) := by decide +kernel
theorem dX0_fact_76 : decode cX0_fact 76 = .ok (.aload_n 0, 1) := by decide +kernel
theorem dX0_fact_77 : decode cX0_fact 77 = .ok (.getfield 9, 3) := by decide +kernel
theorem dX0_fact_80 : decode cX0_fact 80 = .ok (.iload_n 1, 1) := by decide +kernel
theorem dX0_fact_81 : decode cX0_fact 81 = .ok (.iaload, 1) := by decide +kernel
theorem dX0_fact_82 : decode cX0_fact 82 = .ok (.ireturn, 1) := by decide +kernel
theorem dX0_fact_83 : decode cX0_fact 83 = .ok (.aload_n 0, 1) := by decide +kernel
theorem dX0_fact_84 : decode cX0_fact 84 = .ok (.getfield 15, 3) := by decide +kernel
theorem dX0_fact_87 : decode cX0_fact 87 = .ok (.iload_n 1, 1) := by decide +kernel
theorem dX0_fact_88 : decode cX0_fact 88 = .ok (.iaload, 1) := by decide +kernel
theorem dX0_fact_89 : decode cX0_fact 89 = .ok (.ireturn, 1) := by decide +kernel
theorem dX0_edgePart_0 : decode cX0_edgePart 0 = .ok (.aload_n 0, 1) := by decide +kernel
theorem dX0_edgePart_1 : decode cX0_edgePart 1 = .ok (.iload_n 1, 1) := by decide +kernel
theorem dX0_edgePart_2 : decode cX0_edgePart 2 = .ok (.invokevirtual 51, 3) := by decide +kernel
theorem dX0_edgePart_5 : decode cX0_edgePart 5 = .ok (.ifCond .ne 7, 3) := by decide +kernel
theorem dX0_edgePart_8 : decode cX0_edgePart 8 = .ok (.ldc2_w 65, 3) := by decide +kernel
theorem dX0_edgePart_11 : decode cX0_edgePart 11 = .ok (.lreturn, 1) := by decide +kernel
theorem dX0_edgePart_12 : decode cX0_edgePart 12 = .ok (.aload_n 0, 1) := by decide +kernel
theorem dX0_edgePart_13 : decode cX0_edgePart 13 = .ok (.getfield 32, 3) := by decide +kernel
theorem dX0_edgePart_16 : decode cX0_edgePart 16 = .ok (.iload_n 1, 1) := by decide +kernel
theorem dX0_edgePart_17 : decode cX0_edgePart 17 = .ok (.laload, 1) := by decide +kernel
theorem dX0_edgePart_18 : decode cX0_edgePart 18 = .ok (.aload_n 0, 1) := by decide +kernel
theorem dX0_edgePart_19 : decode cX0_edgePart 19 = .ok (.getfield 35, 3) := by decide +kernel
theorem dX0_edgePart_22 : decode cX0_edgePart 22 = .ok (.iload_n 1, 1) := by decide +kernel
theorem dX0_edgePart_23 : decode cX0_edgePart 23 = .ok (.laload, 1) := by decide +kernel
theorem dX0_edgePart_24 : decode cX0_edgePart 24 = .ok (.lcmp, 1) := by decide +kernel
theorem dX0_edgePart_25 : decode cX0_edgePart 25 = .ok (.ifCond .ge 7, 3) := by decide +kernel
theorem dX0_edgePart_28 : decode cX0_edgePart 28 = .ok (.iconst 1, 1) := by decide +kernel
theorem dX0_edgePart_29 : decode cX0_edgePart 29 = .ok (.goto 4, 3) := by decide +kernel
theorem dX0_edgePart_32 : decode cX0_edgePart 32 = .ok (.iconst 0, 1) := by decide +kernel
theorem dX0_edgePart_33 : decode cX0_edgePart 33 = .ok (.istore 4, 2) := by decide +kernel
theorem dX0_edgePart_35 : decode cX0_edgePart 35 = .ok (.iload 4, 2) := by decide +kernel
theorem dX0_edgePart_37 : decode cX0_edgePart 37 = .ok (.iload_n 2, 1) := by decide +kernel
theorem dX0_edgePart_38 : decode cX0_edgePart 38 = .ok (.iconst 2, 1) := by decide +kernel
theorem dX0_edgePart_39 : decode cX0_edgePart 39 = .ok (.irem, 1) := by decide +kernel
theorem dX0_edgePart_40 : decode cX0_edgePart 40 = .ok (.ifCond .ne 7, 3) := by decide +kernel
theorem dX0_edgePart_43 : decode cX0_edgePart 43 = .ok (.iconst 1, 1) := by decide +kernel
theorem dX0_edgePart_44 : decode cX0_edgePart 44 = .ok (.goto 4, 3) := by decide +kernel
theorem dX0_edgePart_47 : decode cX0_edgePart 47 = .ok (.iconst 0, 1) := by decide +kernel
theorem dX0_edgePart_48 : decode cX0_edgePart 48 = .ok (.if_icmp .ne 7, 3) := by decide +kernel
theorem dX0_edgePart_51 : decode cX0_edgePart 51 = .ok (.iconst 1, 1) := by decide +kernel
theorem dX0_edgePart_52 : decode cX0_edgePart 52 = .ok (.goto 4, 3) := by decide +kernel
theorem dX0_edgePart_55 : decode cX0_edgePart 55 = .ok (.iconst 0, 1) := by decide +kernel
theorem dX0_edgePart_56 : decode cX0_edgePart 56 = .ok (.istore 5, 2) := by decide +kernel
theorem dX0_edgePart_58 : decode cX0_edgePart 58 = .ok (.iload_n 3, 1) := by decide +kernel
theorem dX0_edgePart_59 : decode cX0_edgePart 59 = .ok (.iconst 2, 1) := by decide +kernel
theorem dX0_edgePart_60 : decode cX0_edgePart 60 = .ok (.if_icmp .ne 14, 3) := by decide +kernel
theorem dX0_edgePart_63 : decode cX0_edgePart 63 = .ok (.iload 5, 2) := by decide +kernel
theorem dX0_edgePart_65 : decode cX0_edgePart 65 = .ok (.ifCond .eq 7, 3) := by decide +kernel
theorem dX0_edgePart_68 : decode cX0_edgePart 68 = .ok (.lconst 1, 1) := by decide +kernel
theorem dX0_edgePart_69 : decode cX0_edgePart 69 = .ok (.goto 4, 3) := by decide +kernel
theorem dX0_edgePart_72 : decode cX0_edgePart 72 = .ok (.lconst 0, 1) := by decide +kernel
theorem dX0_edgePart_73 : decode cX0_edgePart 73 = .ok (.lreturn, 1) := by decide +kernel
theorem dX0_edgePart_74 : decode cX0_edgePart 74 = .ok (.iload 5, 2) := by decide +kernel
theorem dX0_edgePart_76 : decode cX0_edgePart 76 = .ok (.ifCond .eq 12, 3) := by decide +kernel
theorem dX0_edgePart_79 : decode cX0_edgePart 79 = .ok (.aload_n 0, 1) := by decide +kernel
theorem dX0_edgePart_80 : decode cX0_edgePart 80 = .ok (.getfield 32, 3) := by decide +kernel
theorem dX0_edgePart_83 : decode cX0_edgePart 83 = .ok (.iload_n 1, 1) := by decide +kernel
theorem dX0_edgePart_84 : decode cX0_edgePart 84 = .ok (.laload, 1) := by decide +kernel
theorem dX0_edgePart_85 : decode cX0_edgePart 85 = .ok (.goto 9, 3) := by decide +kernel
theorem dX0_edgePart_88 : decode cX0_edgePart 88 = .ok (.aload_n 0, 1) := by decide +kernel
theorem dX0_edgePart_89 : decode cX0_edgePart 89 = .ok (.getfield 35, 3) := by decide +kernel
theorem dX0_edgePart_92 : decode cX0_edgePart 92 = .ok (.iload_n 1, 1) := by decide +kernel
theorem dX0_edgePart_93 : decode cX0_edgePart 93 = .ok (.laload, 1) := by decide +kernel
theorem dX0_edgePart_94 : decode cX0_edgePart 94 = .ok (.lstore 6, 2) := by decide +kernel
theorem dX0_edgePart_96 : decode cX0_edgePart 96 = .ok (.lload 6, 2) := by decide +kernel
theorem dX0_edgePart_98 : decode cX0_edgePart 98 = .ok (.iload_n 2, 1) := by decide +kernel
theorem dX0_edgePart_99 : decode cX0_edgePart 99 = .ok (.iconst 2, 1) := by decide +kernel
theorem dX0_edgePart_100 : decode cX0_edgePart 100 = .ok (.idiv, 1) := by decide +kernel
theorem dX0_edgePart_101 : decode cX0_edgePart 101 = .ok (.i2l, 1) := by decide +kernel
theorem dX0_edgePart_102 : decode cX0_edgePart 102 = .ok (.aload_n 0, 1) := by decide +kernel
theorem dX0_edgePart_103 : decode cX0_edgePart 103 = .ok (.getfield 28, 3) := by decide +kernel
theorem dX0_edgePart_106 : decode cX0_edgePart 106 = .ok (.iload_n 1, 1) := by decide +kernel
theorem dX0_edgePart_107 : decode cX0_edgePart 107 = .ok (.laload, 1) := by decide +kernel
theorem dX0_edgePart_108 : decode cX0_edgePart 108 = .ok (.lmul, 1) := by decide +kernel
theorem dX0_edgePart_109 : decode cX0_edgePart 109 = .ok (.ladd, 1) := by decide +kernel
theorem dX0_edgePart_110 : decode cX0_edgePart 110 = .ok (.aload_n 0, 1) := by decide +kernel
theorem dX0_edgePart_111 : decode cX0_edgePart 111 = .ok (.getfield 38, 3) := by decide +kernel
theorem dX0_edgePart_114 : decode cX0_edgePart 114 = .ok (.iload_n 1, 1) := by decide +kernel
theorem dX0_edgePart_115 : decode cX0_edgePart 115 = .ok (.laload, 1) := by decide +kernel
theorem dX0_edgePart_116 : decode cX0_edgePart 116 = .ok (.iload_n 3, 1) := by decide +kernel
theorem dX0_edgePart_117 : decode cX0_edgePart 117 = .ok (.invokestatic 67, 3) := by decide +kernel
theorem dX0_edgePart_120 : decode cX0_edgePart 120 = .ok (.lreturn, 1) := by decide +kernel
theorem dX0_distancePart_0 : decode cX0_distancePart 0 = .ok (.aload_n 0, 1) := by decide +kernel
theorem dX0_distancePart_1 : decode cX0_distancePart 1 = .ok (.iload_n 1, 1) := by decide +kernel
theorem dX0_distancePart_2 : decode cX0_distancePart 2 = .ok (.invokevirtual 51, 3) := by decide +kernel
theorem dX0_distancePart_5 : decode cX0_distancePart 5 = .ok (.ifCond .eq 11, 3) := by decide +kernel
theorem dX0_distancePart_8 : decode cX0_distancePart 8 = .ok (.aload_n 0, 1) := by decide +kernel
theorem dX0_distancePart_9 : decode cX0_distancePart 9 = .ok (.iload_n 2, 1) := by decide +kernel
theorem dX0_distancePart_10 : decode cX0_distancePart 10 = .ok (.invokevirtual 51, 3) := by decide +kernel
theorem dX0_distancePart_13 : decode cX0_distancePart 13 = .ok (.ifCond .ne 7, 3) := by decide +kernel
theorem dX0_distancePart_16 : decode cX0_distancePart 16 = .ok (.ldc2_w 65, 3) := by decide +kernel
theorem dX0_distancePart_19 : decode cX0_distancePart 19 = .ok (.lreturn, 1) := by decide +kernel
theorem dX0_distancePart_20 : decode cX0_distancePart 20 = .ok (.aload_n 0, 1) := by decide +kernel
theorem dX0_distancePart_21 : decode cX0_distancePart 21 = .ok (.getfield 38, 3) := by decide +kernel
theorem dX0_distancePart_24 : decode cX0_distancePart 24 = .ok (.iload_n 1, 1) := by decide +kernel
theorem dX0_distancePart_25 : decode cX0_distancePart 25 = .ok (.laload, 1) := by decide +kernel
theorem dX0_distancePart_26 : decode cX0_distancePart 26 = .ok (.aload_n 0, 1) := by decide +kernel
theorem dX0_distancePart_27 : decode cX0_distancePart 27 = .ok (.getfield 38, 3) := by decide +kernel
theorem dX0_distancePart_30 : decode cX0_distancePart 30 = .ok (.iload_n 2, 1) := by decide +kernel
theorem dX0_distancePart_31 : decode cX0_distancePart 31 = .ok (.laload, 1) := by decide +kernel
theorem dX0_distancePart_32 : decode cX0_distancePart 32 = .ok (.invokestatic 59, 3) := by decide +kernel
theorem dX0_distancePart_35 : decode cX0_distancePart 35 = .ok (.lstore 4, 2) := by decide +kernel
theorem dX0_distancePart_37 : decode cX0_distancePart 37 = .ok (.aload_n 0, 1) := by decide +kernel
theorem dX0_distancePart_38 : decode cX0_distancePart 38 = .ok (.getfield 38, 3) := by decide +kernel
theorem dX0_distancePart_41 : decode cX0_distancePart 41 = .ok (.iload_n 2, 1) := by decide +kernel
theorem dX0_distancePart_42 : decode cX0_distancePart 42 = .ok (.laload, 1) := by decide +kernel
theorem dX0_distancePart_43 : decode cX0_distancePart 43 = .ok (.lload 4, 2) := by decide +kernel
theorem dX0_distancePart_45 : decode cX0_distancePart 45 = .ok (.ldiv, 1) := by decide +kernel
theorem dX0_distancePart_46 : decode cX0_distancePart 46 = .ok (.lstore 6, 2) := by decide +kernel
theorem dX0_distancePart_48 : decode cX0_distancePart 48 = .ok (.aload_n 0, 1) := by decide +kernel
theorem dX0_distancePart_49 : decode cX0_distancePart 49 = .ok (.getfield 38, 3) := by decide +kernel
theorem dX0_distancePart_52 : decode cX0_distancePart 52 = .ok (.iload_n 1, 1) := by decide +kernel
theorem dX0_distancePart_53 : decode cX0_distancePart 53 = .ok (.laload, 1) := by decide +kernel
theorem dX0_distancePart_54 : decode cX0_distancePart 54 = .ok (.lload 4, 2) := by decide +kernel
theorem dX0_distancePart_56 : decode cX0_distancePart 56 = .ok (.ldiv, 1) := by decide +kernel
theorem dX0_distancePart_57 : decode cX0_distancePart 57 = .ok (.lstore 8, 2) := by decide +kernel
theorem dX0_distancePart_59 : decode cX0_distancePart 59 = .ok (.aload_n 0, 1) := by decide +kernel
theorem dX0_distancePart_60 : decode cX0_distancePart 60 = .ok (.getfield 28, 3) := by decide +kernel
theorem dX0_distancePart_63 : decode cX0_distancePart 63 = .ok (.iload_n 1, 1) := by decide +kernel
theorem dX0_distancePart_64 : decode cX0_distancePart 64 = .ok (.laload, 1) := by decide +kernel
theorem dX0_distancePart_65 : decode cX0_distancePart 65 = .ok (.lload 6, 2) := by decide +kernel
theorem dX0_distancePart_67 : decode cX0_distancePart 67 = .ok (.lmul, 1) := by decide +kernel
theorem dX0_distancePart_68 : decode cX0_distancePart 68 = .ok (.aload_n 0, 1) := by decide +kernel
theorem dX0_distancePart_69 : decode cX0_distancePart 69 = .ok (.getfield 28, 3) := by decide +kernel
theorem dX0_distancePart_72 : decode cX0_distancePart 72 = .ok (.iload_n 2, 1) := by decide +kernel
theorem dX0_distancePart_73 : decode cX0_distancePart 73 = .ok (.laload, 1) := by decide +kernel
theorem dX0_distancePart_74 : decode cX0_distancePart 74 = .ok (.lload 8, 2) := by decide +kernel
theorem dX0_distancePart_76 : decode cX0_distancePart 76 = .ok (.lmul, 1) := by decide +kernel
theorem dX0_distancePart_77 : decode cX0_distancePart 77 = .ok (.invokestatic 59, 3) := by decide +kernel
theorem dX0_distancePart_80 : decode cX0_distancePart 80 = .ok (.lstore 10, 2) := by decide +kernel
theorem dX0_distancePart_82 : decode cX0_distancePart 82 = .ok (.aload_n 0, 1) := by decide +kernel
theorem dX0_distancePart_83 : decode cX0_distancePart 83 = .ok (.getfield 32, 3) := by decide +kernel
theorem dX0_distancePart_86 : decode cX0_distancePart 86 = .ok (.iload_n 2, 1) := by decide +kernel
theorem dX0_distancePart_87 : decode cX0_distancePart 87 = .ok (.laload, 1) := by decide +kernel
theorem dX0_distancePart_88 : decode cX0_distancePart 88 = .ok (.lload 8, 2) := by decide +kernel
theorem dX0_distancePart_90 : decode cX0_distancePart 90 = .ok (.lmul, 1) := by decide +kernel
theorem dX0_distancePart_91 : decode cX0_distancePart 91 = .ok (.aload_n 0, 1) := by decide +kernel
theorem dX0_distancePart_92 : decode cX0_distancePart 92 = .ok (.getfield 32, 3) := by decide +kernel
theorem dX0_distancePart_95 : decode cX0_distancePart 95 = .ok (.iload_n 1, 1) := by decide +kernel
theorem dX0_distancePart_96 : decode cX0_distancePart 96 = .ok (.laload, 1) := by decide +kernel
theorem dX0_distancePart_97 : decode cX0_distancePart 97 = .ok (.lload 6, 2) := by decide +kernel
theorem dX0_distancePart_99 : decode cX0_distancePart 99 = .ok (.lmul, 1) := by decide +kernel
theorem dX0_distancePart_100 : decode cX0_distancePart 100 = .ok (.lsub, 1) := by decide +kernel
theorem dX0_distancePart_101 : decode cX0_distancePart 101 = .ok (.lload 10, 2) := by decide +kernel
theorem dX0_distancePart_103 : decode cX0_distancePart 103 = .ok (.invokestatic 71, 3) := by decide +kernel
theorem dX0_distancePart_106 : decode cX0_distancePart 106 = .ok (.lstore 12, 2) := by decide +kernel
theorem dX0_distancePart_108 : decode cX0_distancePart 108 = .ok (.lload 12, 2) := by decide +kernel
theorem dX0_distancePart_110 : decode cX0_distancePart 110 = .ok (.lconst 0, 1) := by decide +kernel
theorem dX0_distancePart_111 : decode cX0_distancePart 111 = .ok (.lcmp, 1) := by decide +kernel
theorem dX0_distancePart_112 : decode cX0_distancePart 112 = .ok (.ifCond .ne 8, 3) := by decide +kernel
theorem dX0_distancePart_115 : decode cX0_distancePart 115 = .ok (.lload 10, 2) := by decide +kernel
theorem dX0_distancePart_117 : decode cX0_distancePart 117 = .ok (.goto 5, 3) := by decide +kernel
theorem dX0_distancePart_120 : decode cX0_distancePart 120 = .ok (.lload 12, 2) := by decide +kernel
theorem dX0_distancePart_122 : decode cX0_distancePart 122 = .ok (.aload_n 0, 1) := by decide +kernel
theorem dX0_distancePart_123 : decode cX0_distancePart 123 = .ok (.getfield 38, 3) := by decide +kernel
theorem dX0_distancePart_126 : decode cX0_distancePart 126 = .ok (.iload_n 1, 1) := by decide +kernel
theorem dX0_distancePart_127 : decode cX0_distancePart 127 = .ok (.laload, 1) := by decide +kernel
theorem dX0_distancePart_128 : decode cX0_distancePart 128 = .ok (.lload 6, 2) := by decide +kernel
theorem dX0_distancePart_130 : decode cX0_distancePart 130 = .ok (.lmul, 1) := by decide +kernel
theorem dX0_distancePart_131 : decode cX0_distancePart 131 = .ok (.iload_n 3, 1) := by decide +kernel
theorem dX0_distancePart_132 : decode cX0_distancePart 132 = .ok (.invokestatic 67, 3) := by decide +kernel
theorem dX0_distancePart_135 : decode cX0_distancePart 135 = .ok (.lreturn, 1) := by decide +kernel
theorem dX1_init_0 : decode cX1_init 0 = .ok (.aload_n 0, 1) := by decide +kernel
theorem dX1_init_1 : decode cX1_init 1 = .ok (.invokespecial 3, 3) := by decide +kernel
theorem dX1_init_4 : decode cX1_init 4 = .ok (.aload_n 0, 1) := by decide +kernel
theorem dX1_init_5 : decode cX1_init 5 = .ok (.sipush 640, 3) := by decide +kernel
theorem dX1_init_8 : decode cX1_init 8 = .ok (.newarray .char, 2) := by decide +kernel
theorem dX1_init_10 : decode cX1_init 10 = .ok (.putfield 9, 3) := by decide +kernel
theorem dX1_init_13 : decode cX1_init 13 = .ok (.aload_n 0, 1) := by decide +kernel
theorem dX1_init_14 : decode cX1_init 14 = .ok (.bipush 40, 2) := by decide +kernel
theorem dX1_init_16 : decode cX1_init 16 = .ok (.newarray .int, 2) := by decide +kernel
theorem dX1_init_18 : decode cX1_init 18 = .ok (.putfield 15, 3) := by decide +kernel
theorem dX1_init_21 : decode cX1_init 21 = .ok (.return_, 1) := by decide +kernel
theorem dX1_has_0 : decode cX1_has 0 = .ok (.iload_n 0, 1) := by decide +kernel
theorem dX1_has_1 : decode cX1_has 1 = .ok (.ifCond .lt 13, 3) := by decide +kernel
theorem dX1_has_4 : decode cX1_has 4 = .ok (.iload_n 0, 1) := by decide +kernel
theorem dX1_has_5 : decode cX1_has 5 = .ok (.bipush 40, 2) := by decide +kernel
theorem dX1_has_7 : decode cX1_has 7 = .ok (.if_icmp .ge 7, 3) := by decide +kernel
theorem dX1_has_10 : decode cX1_has 10 = .ok (.iconst 1, 1) := by decide +kernel
theorem dX1_has_11 : decode cX1_has 11 = .ok (.goto 4, 3) := by decide +kernel
theorem dX1_has_14 : decode cX1_has 14 = .ok (.iconst 0, 1) := by decide +kernel
theorem dX1_has_15 : decode cX1_has 15 = .ok (.ireturn, 1) := by decide +kernel
theorem dX1_grow_0 : decode cX1_grow 0 = .ok (.aload_n 0, 1) := by decide +kernel
theorem dX1_grow_1 : decode cX1_grow 1 = .ok (.iload_n 1, 1) := by decide +kernel
theorem dX1_grow_2 : decode cX1_grow 2 = .ok (.invokevirtual 19, 3) := by decide +kernel
theorem dX1_grow_5 : decode cX1_grow 5 = .ok (.istore_n 3, 1) := by decide +kernel
theorem dX1_grow_6 : decode cX1_grow 6 = .ok (.iload_n 1, 1) := by decide +kernel
theorem dX1_grow_7 : decode cX1_grow 7 = .ok (.invokestatic 23, 3) := by decide +kernel
theorem dX1_grow_10 : decode cX1_grow 10 = .ok (.ifCond .eq 9, 3) := by decide +kernel
theorem dX1_grow_13 : decode cX1_grow 13 = .ok (.iload_n 3, 1) := by decide +kernel
theorem dX1_grow_14 : decode cX1_grow 14 = .ok (.bipush 16, 2) := by decide +kernel
theorem dX1_grow_16 : decode cX1_grow 16 = .ok (.if_icmp .lt 5, 3) := by decide +kernel
theorem dX1_grow_19 : decode cX1_grow 19 = .ok (.iconst 0, 1) := by decide +kernel
theorem dX1_grow_20 : decode cX1_grow 20 = .ok (.ireturn, 1) := by decide +kernel
theorem dX1_grow_21 : decode cX1_grow 21 = .ok (.aload_n 0, 1) := by decide +kernel
theorem dX1_grow_22 : decode cX1_grow 22 = .ok (.getfield 9, 3) := by decide +kernel
theorem dX1_grow_25 : decode cX1_grow 25 = .ok (.iload_n 1, 1) := by decide +kernel
theorem dX1_grow_26 : decode cX1_grow 26 = .ok (.bipush 16, 2) := by decide +kernel
theorem dX1_grow_28 : decode cX1_grow 28 = .ok (.imul, 1) := by decide +kernel
theorem dX1_grow_29 : decode cX1_grow 29 = .ok (.iload_n 3, 1) := by decide +kernel
theorem dX1_grow_30 : decode cX1_grow 30 = .ok (.iadd, 1) := by decide +kernel
theorem dX1_grow_31 : decode cX1_grow 31 = .ok (.iload_n 2, 1) := by decide +kernel
theorem dX1_grow_32 : decode cX1_grow 32 = .ok (.i2c, 1) := by decide +kernel
theorem dX1_grow_33 : decode cX1_grow 33 = .ok (.castore, 1) := by decide +kernel
theorem dX1_grow_34 : decode cX1_grow 34 = .ok (.aload_n 0, 1) := by decide +kernel
theorem dX1_grow_35 : decode cX1_grow 35 = .ok (.getfield 15, 3) := by decide +kernel
theorem dX1_grow_38 : decode cX1_grow 38 = .ok (.iload_n 1, 1) := by decide +kernel
theorem dX1_grow_39 : decode cX1_grow 39 = .ok (.iload_n 3, 1) := by decide +kernel
theorem dX1_grow_40 : decode cX1_grow 40 = .ok (.iconst 1, 1) := by decide +kernel
theorem dX1_grow_41 : decode cX1_grow 41 = .ok (.iadd, 1) := by decide +kernel
theorem dX1_grow_42 : decode cX1_grow 42 = .ok (.iastore, 1) := by decide +kernel
theorem dX1_grow_43 : decode cX1_grow 43 = .ok (.iconst 1, 1) := by decide +kernel
theorem dX1_grow_44 : decode cX1_grow 44 = .ok (.ireturn, 1) := by decide +kernel
theorem dX1_lengthOf_0 : decode cX1_lengthOf 0 = .ok (.iload_n 1, 1) := by decide +kernel
theorem dX1_lengthOf_1 : decode cX1_lengthOf 1 = .ok (.invokestatic 23, 3) := by decide +kernel
theorem dX1_lengthOf_4 : decode cX1_lengthOf 4 = .ok (.ifCond .eq 12, 3) := by decide +kernel
theorem dX1_lengthOf_7 : decode cX1_lengthOf 7 = .ok (.aload_n 0, 1) := by decide +kernel
theorem dX1_lengthOf_8 : decode cX1_lengthOf 8 = .ok (.getfield 15, 3) := by decide +kernel
theorem dX1_lengthOf_11 : decode cX1_lengthOf 11 = .ok (.iload_n 1, 1) := by decide +kernel
theorem dX1_lengthOf_12 : decode cX1_lengthOf 12 = .ok (.iaload, 1) := by decide +kernel
theorem dX1_lengthOf_13 : decode cX1_lengthOf 13 = .ok (.goto 4, 3) := by decide +kernel
theorem dX1_lengthOf_16 : decode cX1_lengthOf 16 = .ok (.iconst 0, 1) := by decide +kernel
theorem dX1_lengthOf_17 : decode cX1_lengthOf 17 = .ok (.ireturn, 1) := by decide +kernel
theorem dX1_at_0 : decode cX1_at 0 = .ok (.iload_n 2, 1) := by decide +kernel
theorem dX1_at_1 : decode cX1_at 1 = .ok (.ifCond .lt 26, 3) := by decide +kernel
theorem dX1_at_4 : decode cX1_at 4 = .ok (.iload_n 2, 1) := by decide +kernel
theorem dX1_at_5 : decode cX1_at 5 = .ok (.aload_n 0, 1) := by decide +kernel
theorem dX1_at_6 : decode cX1_at 6 = .ok (.iload_n 1, 1) := by decide +kernel
theorem dX1_at_7 : decode cX1_at 7 = .ok (.invokevirtual 19, 3) := by decide +kernel
theorem dX1_at_10 : decode cX1_at 10 = .ok (.if_icmp .ge 17, 3) := by decide +kernel
theorem dX1_at_13 : decode cX1_at 13 = .ok (.aload_n 0, 1) := by decide +kernel
theorem dX1_at_14 : decode cX1_at 14 = .ok (.getfield 9, 3) := by decide +kernel
theorem dX1_at_17 : decode cX1_at 17 = .ok (.iload_n 1, 1) := by decide +kernel
theorem dX1_at_18 : decode cX1_at 18 = .ok (.bipush 16, 2) := by decide +kernel
theorem dX1_at_20 : decode cX1_at 20 = .ok (.imul, 1) := by decide +kernel
theorem dX1_at_21 : decode cX1_at 21 = .ok (.iload_n 2, 1) := by decide +kernel
theorem dX1_at_22 : decode cX1_at 22 = .ok (.iadd, 1) := by decide +kernel
theorem dX1_at_23 : decode cX1_at 23 = .ok (.caload, 1) := by decide +kernel
theorem dX1_at_24 : decode cX1_at 24 = .ok (.goto 4, 3) := by decide +kernel
theorem dX1_at_27 : decode cX1_at 27 = .ok (.iconst 0, 1) := by decide +kernel
theorem dX1_at_28 : decode cX1_at 28 = .ok (.ireturn, 1) := by decide +kernel
theorem dX2_init_0 : decode cX2_init 0 = .ok (.aload_n 0, 1) := by decide +kernel
theorem dX2_init_1 : decode cX2_init 1 = .ok (.invokespecial 3, 3) := by decide +kernel
theorem dX2_init_4 : decode cX2_init 4 = .ok (.aload_n 0, 1) := by decide +kernel
theorem dX2_init_5 : decode cX2_init 5 = .ok (.new 9, 3) := by decide +kernel
theorem dX2_init_8 : decode cX2_init 8 = .ok (.dup, 1) := by decide +kernel
theorem dX2_init_9 : decode cX2_init 9 = .ok (.invokespecial 11, 3) := by decide +kernel
theorem dX2_init_12 : decode cX2_init 12 = .ok (.putfield 12, 3) := by decide +kernel
theorem dX2_init_15 : decode cX2_init 15 = .ok (.aload_n 0, 1) := by decide +kernel
theorem dX2_init_16 : decode cX2_init 16 = .ok (.bipush 12, 2) := by decide +kernel
theorem dX2_init_18 : decode cX2_init 18 = .ok (.newarray .int, 2) := by decide +kernel
theorem dX2_init_20 : decode cX2_init 20 = .ok (.putfield 18, 3) := by decide +kernel
theorem dX2_init_23 : decode cX2_init 23 = .ok (.aload_n 0, 1) := by decide +kernel
theorem dX2_init_24 : decode cX2_init 24 = .ok (.bipush 12, 2) := by decide +kernel
theorem dX2_init_26 : decode cX2_init 26 = .ok (.newarray .int, 2) := by decide +kernel
theorem dX2_init_28 : decode cX2_init 28 = .ok (.putfield 22, 3) := by decide +kernel
theorem dX2_init_31 : decode cX2_init 31 = .ok (.aload_n 0, 1) := by decide +kernel
theorem dX2_init_32 : decode cX2_init 32 = .ok (.bipush 80, 2) := by decide +kernel
theorem dX2_init_34 : decode cX2_init 34 = .ok (.newarray .int, 2) := by decide +kernel
theorem dX2_init_36 : decode cX2_init 36 = .ok (.putfield 25, 3) := by decide +kernel
theorem dX2_init_39 : decode cX2_init 39 = .ok (.aload_n 0, 1) := by decide +kernel
theorem dX2_init_40 : decode cX2_init 40 = .ok (.bipush 80, 2) := by decide +kernel
theorem dX2_init_42 : decode cX2_init 42 = .ok (.newarray .int, 2) := by decide +kernel
theorem dX2_init_44 : decode cX2_init 44 = .ok (.putfield 28, 3) := by decide +kernel
theorem dX2_init_47 : decode cX2_init 47 = .ok (.aload_n 0, 1) := by decide +kernel
theorem dX2_init_48 : decode cX2_init 48 = .ok (.new 31, 3) := by decide +kernel
theorem dX2_init_51 : decode cX2_init 51 = .ok (.dup, 1) := by decide +kernel
theorem dX2_init_52 : decode cX2_init 52 = .ok (.invokespecial 33, 3) := by decide +kernel
theorem dX2_init_55 : decode cX2_init 55 = .ok (.putfield 34, 3) := by decide +kernel
theorem dX2_init_58 : decode cX2_init 58 = .ok (.aload_n 0, 1) := by decide +kernel
theorem dX2_init_59 : decode cX2_init 59 = .ok (.iconst 0, 1) := by decide +kernel
theorem dX2_init_60 : decode cX2_init 60 = .ok (.putfield 38, 3) := by decide +kernel
theorem dX2_init_63 : decode cX2_init 63 = .ok (.aload_n 0, 1) := by decide +kernel
theorem dX2_init_64 : decode cX2_init 64 = .ok (.iconst 0, 1) := by decide +kernel
theorem dX2_init_65 : decode cX2_init 65 = .ok (.putfield 42, 3) := by decide +kernel
theorem dX2_init_68 : decode cX2_init 68 = .ok (.return_, 1) := by decide +kernel
theorem dX2_exchange_0 : decode cX2_exchange 0 = .ok (.aload_n 0, 1) := by decide +kernel
theorem dX2_exchange_1 : decode cX2_exchange 1 = .ok (.getfield 34, 3) := by decide +kernel
theorem dX2_exchange_4 : decode cX2_exchange 4 = .ok (.astore_n 2, 1) := by decide +kernel
theorem dX2_exchange_5 : decode cX2_exchange 5 = .ok (.aload_n 0, 1) := by decide +kernel
theorem dX2_exchange_6 : decode cX2_exchange 6 = .ok (.aload_n 1, 1) := by decide +kernel
theorem dX2_exchange_7 : decode cX2_exchange 7 = .ok (.putfield 34, 3) := by decide +kernel
theorem dX2_exchange_10 : decode cX2_exchange 10 = .ok (.aload_n 2, 1) := by decide +kernel
theorem dX2_exchange_11 : decode cX2_exchange 11 = .ok (.areturn, 1) := by decide +kernel
theorem dX2_faultOfTape_0 : decode cX2_faultOfTape 0 = .ok (.aload_n 0, 1) := by decide +kernel
theorem dX2_faultOfTape_1 : decode cX2_faultOfTape 1 = .ok (.getfield 34, 3) := by decide +kernel
theorem dX2_faultOfTape_4 : decode cX2_faultOfTape 4 = .ok (.invokevirtual 45, 3) := by decide +kernel
theorem dX2_faultOfTape_7 : decode cX2_faultOfTape 7 = .ok (.aload_n 0, 1) := by decide +kernel
theorem dX2_faultOfTape_8 : decode cX2_faultOfTape 8 = .ok (.iconst 0, 1) := by decide +kernel
theorem dX2_faultOfTape_9 : decode cX2_faultOfTape 9 = .ok (.putfield 38, 3) := by decide +kernel
theorem dX2_faultOfTape_12 : decode cX2_faultOfTape 12 = .ok (.aload_n 0, 1) := by decide +kernel
theorem dX2_faultOfTape_13 : decode cX2_faultOfTape 13 = .ok (.iconst 0, 1) := by decide +kernel
theorem dX2_faultOfTape_14 : decode cX2_faultOfTape 14 = .ok (.putfield 42, 3) := by decide +kernel
theorem dX2_faultOfTape_17 : decode cX2_faultOfTape 17 = .ok (.aload_n 0, 1) := by decide +kernel
theorem dX2_faultOfTape_18 : decode cX2_faultOfTape 18 = .ok (.getfield 28, 3) := by decide +kernel
theorem dX2_faultOfTape_21 : decode cX2_faultOfTape 21 = .ok (.iconst 0, 1) := by decide +kernel
theorem dX2_faultOfTape_22 : decode cX2_faultOfTape 22 = .ok (.invokestatic 48, 3) := by decide +kernel
theorem dX2_faultOfTape_25 : decode cX2_faultOfTape 25 = .ok (.iconst 0, 1) := by decide +kernel
theorem dX2_faultOfTape_26 : decode cX2_faultOfTape 26 = .ok (.istore_n 1, 1) := by decide +kernel
theorem dX2_faultOfTape_27 : decode cX2_faultOfTape 27 = .ok (.iload_n 1, 1) := by decide +kernel
theorem dX2_faultOfTape_28 : decode cX2_faultOfTape 28 = .ok (.bipush 40, 2) := by decide +kernel
theorem dX2_faultOfTape_30 : decode cX2_faultOfTape 30 = .ok (.if_icmp .gt 48, 3) := by decide +kernel
theorem dX2_faultOfTape_33 : decode cX2_faultOfTape 33 = .ok (.aload_n 0, 1) := by decide +kernel
theorem dX2_faultOfTape_34 : decode cX2_faultOfTape 34 = .ok (.invokevirtual 54, 3) := by decide +kernel
theorem dX2_faultOfTape_37 : decode cX2_faultOfTape 37 = .ok (.aload_n 0, 1) := by decide +kernel
theorem dX2_faultOfTape_38 : decode cX2_faultOfTape 38 = .ok (.getfield 38, 3) := by decide +kernel
theorem dX2_faultOfTape_41 : decode cX2_faultOfTape 41 = .ok (.aload_n 0, 1) := by decide +kernel
theorem dX2_faultOfTape_42 : decode cX2_faultOfTape 42 = .ok (.getfield 12, 3) := by decide +kernel
theorem dX2_faultOfTape_45 : decode cX2_faultOfTape 45 = .ok (.getfield 57, 3) := by decide +kernel
theorem dX2_faultOfTape_48 : decode cX2_faultOfTape 48 = .ok (.if_icmp .ne 6, 3) := by decide +kernel
theorem dX2_faultOfTape_51 : decode cX2_faultOfTape 51 = .ok (.goto 27, 3) := by decide +kernel
theorem dX2_faultOfTape_54 : decode cX2_faultOfTape 54 = .ok (.iload_n 1, 1) := by decide +kernel
theorem dX2_faultOfTape_55 : decode cX2_faultOfTape 55 = .ok (.bipush 40, 2) := by decide +kernel
theorem dX2_faultOfTape_57 : decode cX2_faultOfTape 57 = .ok (.if_icmp .eq 10, 3) := by decide +kernel
theorem dX2_faultOfTape_60 : decode cX2_faultOfTape 60 = .ok (.aload_n 0, 1) := by decide +kernel
theorem dX2_faultOfTape_61 : decode cX2_faultOfTape 61 = .ok (.invokevirtual 60, 3) := by decide +kernel
theorem dX2_faultOfTape_64 : decode cX2_faultOfTape 64 = .ok (.ifCond .ne 8, 3) := by decide +kernel
theorem dX2_faultOfTape_67 : decode cX2_faultOfTape 67 = .ok (.aload_n 0, 1) := by decide +kernel
theorem dX2_faultOfTape_68 : decode cX2_faultOfTape 68 = .ok (.getfield 38, 3) := by decide +kernel
theorem dX2_faultOfTape_71 : decode cX2_faultOfTape 71 = .ok (.ireturn, 1) := by decide +kernel
theorem dX2_faultOfTape_72 : decode cX2_faultOfTape 72 = .ok (.iinc 1 1, 3) := by decide +kernel
theorem dX2_faultOfTape_75 : decode cX2_faultOfTape 75 = .ok (.goto (-48), 3) := by decide +kernel
theorem dX2_faultOfTape_78 : decode cX2_faultOfTape 78 = .ok (.aload_n 0, 1) := by decide +kernel
theorem dX2_faultOfTape_79 : decode cX2_faultOfTape 79 = .ok (.invokevirtual 64, 3) := by decide +kernel
theorem dX2_faultOfTape_82 : decode cX2_faultOfTape 82 = .ok (.ifCond .eq 21, 3) := by decide +kernel
theorem dX2_faultOfTape_85 : decode cX2_faultOfTape 85 = .ok (.aload_n 0, 1) := by decide +kernel
theorem dX2_faultOfTape_86 : decode cX2_faultOfTape 86 = .ok (.invokevirtual 67, 3) := by decide +kernel
theorem dX2_faultOfTape_89 : decode cX2_faultOfTape 89 = .ok (.ifCond .eq 14, 3) := by decide +kernel
theorem dX2_faultOfTape_92 : decode cX2_faultOfTape 92 = .ok (.aload_n 0, 1) := by decide +kernel
theorem dX2_faultOfTape_93 : decode cX2_faultOfTape 93 = .ok (.invokevirtual 70, 3) := by decide +kernel
theorem dX2_faultOfTape_96 : decode cX2_faultOfTape 96 = .ok (.ifCond .eq 7, 3) := by decide +kernel
theorem dX2_faultOfTape_99 : decode cX2_faultOfTape 99 = .ok (.iconst (-1), 1) := by decide +kernel
theorem dX2_faultOfTape_100 : decode cX2_faultOfTape 100 = .ok (.goto 7, 3) := by decide +kernel
theorem dX2_faultOfTape_103 : decode cX2_faultOfTape 103 = .ok (.aload_n 0, 1) := by decide +kernel
theorem dX2_faultOfTape_104 : decode cX2_faultOfTape 104 = .ok (.getfield 38, 3) := by decide +kernel
theorem dX2_faultOfTape_107 : decode cX2_faultOfTape 107 = .ok (.ireturn, 1) := by decide +kernel
theorem dX2_takeRow_0 : decode cX2_takeRow 0 = .ok (.aload_n 0, 1) := by decide +kernel
theorem dX2_takeRow_1 : decode cX2_takeRow 1 = .ok (.invokevirtual 73, 3) := by decide +kernel
theorem dX2_takeRow_4 : decode cX2_takeRow 4 = .ok (.istore_n 1, 1) := by decide +kernel
theorem dX2_takeRow_5 : decode cX2_takeRow 5 = .ok (.iload_n 1, 1) := by decide +kernel
theorem dX2_takeRow_6 : decode cX2_takeRow 6 = .ok (.iconst (-1), 1) := by decide +kernel
theorem dX2_takeRow_7 : decode cX2_takeRow 7 = .ok (.if_icmp .ne 5, 3) := by decide +kernel
theorem dX2_takeRow_10 : decode cX2_takeRow 10 = .ok (.iconst 0, 1) := by decide +kernel
theorem dX2_takeRow_11 : decode cX2_takeRow 11 = .ok (.ireturn, 1) := by decide +kernel
theorem dX2_takeRow_12 : decode cX2_takeRow 12 = .ok (.aload_n 0, 1) := by decide +kernel
theorem dX2_takeRow_13 : decode cX2_takeRow 13 = .ok (.getfield 34, 3) := by decide +kernel
theorem dX2_takeRow_16 : decode cX2_takeRow 16 = .ok (.iload_n 1, 1) := by decide +kernel
theorem dX2_takeRow_17 : decode cX2_takeRow 17 = .ok (.invokevirtual 77, 3) := by decide +kernel
theorem dX2_takeRow_20 : decode cX2_takeRow 20 = .ok (.aload_n 0, 1) := by decide +kernel
theorem dX2_takeRow_21 : decode cX2_takeRow 21 = .ok (.invokevirtual 81, 3) := by decide +kernel
theorem dX2_takeRow_24 : decode cX2_takeRow 24 = .ok (.iload_n 1, 1) := by decide +kernel
theorem dX2_takeRow_25 : decode cX2_takeRow 25 = .ok (.tableswitch 212 0 7 #[47, 78, 78, 127, 152, 160, 186, 186], 47) := by decide +kernel
theorem dX2_takeRow_72 : decode cX2_takeRow 72 = .ok (.aload_n 0, 1) := by decide +kernel
theorem dX2_takeRow_73 : decode cX2_takeRow 73 = .ok (.invokevirtual 84, 3) := by decide +kernel
theorem dX2_takeRow_76 : decode cX2_takeRow 76 = .ok (.ifCond .eq 22, 3) := by decide +kernel
theorem dX2_takeRow_79 : decode cX2_takeRow 79 = .ok (.aload_n 0, 1) := by decide +kernel
theorem dX2_takeRow_80 : decode cX2_takeRow 80 = .ok (.invokevirtual 87, 3) := by decide +kernel
theorem dX2_takeRow_83 : decode cX2_takeRow 83 = .ok (.ifCond .eq 15, 3) := by decide +kernel
theorem dX2_takeRow_86 : decode cX2_takeRow 86 = .ok (.aload_n 0, 1) := by decide +kernel
theorem dX2_takeRow_87 : decode cX2_takeRow 87 = .ok (.iconst 0, 1) := by decide +kernel
theorem dX2_takeRow_88 : decode cX2_takeRow 88 = .ok (.invokevirtual 90, 3) := by decide +kernel
theorem dX2_takeRow_91 : decode cX2_takeRow 91 = .ok (.ifCond .eq 7, 3) := by decide +kernel
theorem dX2_takeRow_94 : decode cX2_takeRow 94 = .ok (.iconst 1, 1) := by decide +kernel
theorem dX2_takeRow_95 : decode cX2_takeRow 95 = .ok (.goto 4, 3) := by decide +kernel
theorem dX2_takeRow_98 : decode cX2_takeRow 98 = .ok (.iconst 0, 1) := by decide +kernel
theorem dX2_takeRow_99 : decode cX2_takeRow 99 = .ok (.istore_n 2, 1) := by decide +kernel
theorem dX2_takeRow_100 : decode cX2_takeRow 100 = .ok (.goto 161, 3) := by decide +kernel
theorem dX2_takeRow_103 : decode cX2_takeRow 103 = .ok (.aload_n 0, 1) := by decide +kernel
theorem dX2_takeRow_104 : decode cX2_takeRow 104 = .ok (.invokevirtual 84, 3) := by decide +kernel
theorem dX2_takeRow_107 : decode cX2_takeRow 107 = .ok (.ifCond .eq 40, 3) := by decide +kernel
theorem dX2_takeRow_110 : decode cX2_takeRow 110 = .ok (.aload_n 0, 1) := by decide +kernel
theorem dX2_takeRow_111 : decode cX2_takeRow 111 = .ok (.iconst 0, 1) := by decide +kernel
theorem dX2_takeRow_112 : decode cX2_takeRow 112 = .ok (.invokevirtual 94, 3) := by decide +kernel
theorem dX2_takeRow_115 : decode cX2_takeRow 115 = .ok (.ifCond .eq 32, 3) := by decide +kernel
theorem dX2_takeRow_118 : decode cX2_takeRow 118 = .ok (.aload_n 0, 1) := by decide +kernel
theorem dX2_takeRow_119 : decode cX2_takeRow 119 = .ok (.iload_n 1, 1) := by decide +kernel
theorem dX2_takeRow_120 : decode cX2_takeRow 120 = .ok (.iconst 2, 1) := by decide +kernel
theorem dX2_takeRow_121 : decode cX2_takeRow 121 = .ok (.if_icmp .ne 7, 3) := by decide +kernel
theorem dX2_takeRow_124 : decode cX2_takeRow 124 = .ok (.iconst 1, 1) := by decide +kernel
theorem dX2_takeRow_125 : decode cX2_takeRow 125 = .ok (.goto 4, 3) := by decide +kernel
theorem dX2_takeRow_128 : decode cX2_takeRow 128 = .ok (.iconst 0, 1) := by decide +kernel
theorem dX2_takeRow_129 : decode cX2_takeRow 129 = .ok (.invokevirtual 97, 3) := by decide +kernel
theorem dX2_takeRow_132 : decode cX2_takeRow 132 = .ok (.ifCond .eq 15, 3) := by decide +kernel
theorem dX2_takeRow_135 : decode cX2_takeRow 135 = .ok (.aload_n 0, 1) := by decide +kernel
theorem dX2_takeRow_136 : decode cX2_takeRow 136 = .ok (.iconst 0, 1) := by decide +kernel
theorem dX2_takeRow_137 : decode cX2_takeRow 137 = .ok (.invokevirtual 90, 3) := by decide +kernel
theorem dX2_takeRow_140 : decode cX2_takeRow 140 = .ok (.ifCond .eq 7, 3) := by decide +kernel
theorem dX2_takeRow_143 : decode cX2_takeRow 143 = .ok (.iconst 1, 1) := by decide +kernel
theorem dX2_takeRow_144 : decode cX2_takeRow 144 = .ok (.goto 4, 3) := by decide +kernel
theorem dX2_takeRow_147 : decode cX2_takeRow 147 = .ok (.iconst 0, 1) := by decide +kernel
theorem dX2_takeRow_148 : decode cX2_takeRow 148 = .ok (.istore_n 2, 1) := by decide +kernel
theorem dX2_takeRow_149 : decode cX2_takeRow 149 = .ok (.goto 112, 3) := by decide +kernel
theorem dX2_takeRow_152 : decode cX2_takeRow 152 = .ok (.aload_n 0, 1) := by decide +kernel
theorem dX2_takeRow_153 : decode cX2_takeRow 153 = .ok (.iconst 0, 1) := by decide +kernel
theorem dX2_takeRow_154 : decode cX2_takeRow 154 = .ok (.invokevirtual 94, 3) := by decide +kernel
theorem dX2_takeRow_157 : decode cX2_takeRow 157 = .ok (.ifCond .eq 15, 3) := by decide +kernel
theorem dX2_takeRow_160 : decode cX2_takeRow 160 = .ok (.aload_n 0, 1) := by decide +kernel
theorem dX2_takeRow_161 : decode cX2_takeRow 161 = .ok (.iconst 1, 1) := by decide +kernel
theorem dX2_takeRow_162 : decode cX2_takeRow 162 = .ok (.invokevirtual 94, 3) := by decide +kernel
theorem dX2_takeRow_165 : decode cX2_takeRow 165 = .ok (.ifCond .eq 7, 3) := by decide +kernel
theorem dX2_takeRow_168 : decode cX2_takeRow 168 = .ok (.iconst 1, 1) := by decide +kernel
theorem dX2_takeRow_169 : decode cX2_takeRow 169 = .ok (.goto 4, 3) := by decide +kernel
theorem dX2_takeRow_172 : decode cX2_takeRow 172 = .ok (.iconst 0, 1) := by decide +kernel
theorem dX2_takeRow_173 : decode cX2_takeRow 173 = .ok (.istore_n 2, 1) := by decide +kernel
theorem dX2_takeRow_174 : decode cX2_takeRow 174 = .ok (.goto 87, 3) := by decide +kernel
theorem dX2_takeRow_177 : decode cX2_takeRow 177 = .ok (.aload_n 0, 1) := by decide +kernel
theorem dX2_takeRow_178 : decode cX2_takeRow 178 = .ok (.invokevirtual 101, 3) := by decide +kernel
theorem dX2_takeRow_181 : decode cX2_takeRow 181 = .ok (.istore_n 2, 1) := by decide +kernel
theorem dX2_takeRow_182 : decode cX2_takeRow 182 = .ok (.goto 79, 3) := by decide +kernel
theorem dX2_takeRow_185 : decode cX2_takeRow 185 = .ok (.aload_n 0, 1) := by decide +kernel
theorem dX2_takeRow_186 : decode cX2_takeRow 186 = .ok (.iconst 2, 1) := by decide +kernel
theorem dX2_takeRow_187 : decode cX2_takeRow 187 = .ok (.bipush 100, 2) := by decide +kernel
theorem dX2_takeRow_189 : decode cX2_takeRow 189 = .ok (.invokevirtual 104, 3) := by decide +kernel
theorem dX2_takeRow_192 : decode cX2_takeRow 192 = .ok (.ifCond .eq 14, 3) := by decide +kernel
theorem dX2_takeRow_195 : decode cX2_takeRow 195 = .ok (.aload_n 0, 1) := by decide +kernel
theorem dX2_takeRow_196 : decode cX2_takeRow 196 = .ok (.invokevirtual 101, 3) := by decide +kernel
theorem dX2_takeRow_199 : decode cX2_takeRow 199 = .ok (.ifCond .eq 7, 3) := by decide +kernel
theorem dX2_takeRow_202 : decode cX2_takeRow 202 = .ok (.iconst 1, 1) := by decide +kernel
theorem dX2_takeRow_203 : decode cX2_takeRow 203 = .ok (.goto 4, 3) := by decide +kernel
theorem dX2_takeRow_206 : decode cX2_takeRow 206 = .ok (.iconst 0, 1) := by decide +kernel
theorem dX2_takeRow_207 : decode cX2_takeRow 207 = .ok (.istore_n 2, 1) := by decide +kernel
theorem dX2_takeRow_208 : decode cX2_takeRow 208 = .ok (.goto 53, 3) := by decide +kernel
theorem dX2_takeRow_211 : decode cX2_takeRow 211 = .ok (.aload_n 0, 1) := by decide +kernel
theorem dX2_takeRow_212 : decode cX2_takeRow 212 = .ok (.iconst 0, 1) := by decide +kernel
theorem dX2_takeRow_213 : decode cX2_takeRow 213 = .ok (.ldc 108, 2) := by decide +kernel
theorem dX2_takeRow_215 : decode cX2_takeRow 215 = .ok (.invokevirtual 104, 3) := by decide +kernel
theorem dX2_takeRow_218 : decode cX2_takeRow 218 = .ok (.ifCond .eq 14, 3) := by decide +kernel
theorem dX2_takeRow_221 : decode cX2_takeRow 221 = .ok (.aload_n 0, 1) := by decide +kernel
theorem dX2_takeRow_222 : decode cX2_takeRow 222 = .ok (.invokevirtual 101, 3) := by decide +kernel
theorem dX2_takeRow_225 : decode cX2_takeRow 225 = .ok (.ifCond .eq 7, 3) := by decide +kernel
theorem dX2_takeRow_228 : decode cX2_takeRow 228 = .ok (.iconst 1, 1) := by decide +kernel
theorem dX2_takeRow_229 : decode cX2_takeRow 229 = .ok (.goto 4, 3) := by decide +kernel
theorem dX2_takeRow_232 : decode cX2_takeRow 232 = .ok (.iconst 0, 1) := by decide +kernel
theorem dX2_takeRow_233 : decode cX2_takeRow 233 = .ok (.istore_n 2, 1) := by decide +kernel
theorem dX2_takeRow_234 : decode cX2_takeRow 234 = .ok (.goto 27, 3) := by decide +kernel
theorem dX2_takeRow_237 : decode cX2_takeRow 237 = .ok (.aload_n 0, 1) := by decide +kernel
theorem dX2_takeRow_238 : decode cX2_takeRow 238 = .ok (.iconst 0, 1) := by decide +kernel
theorem dX2_takeRow_239 : decode cX2_takeRow 239 = .ok (.ldc 108, 2) := by decide +kernel
theorem dX2_takeRow_241 : decode cX2_takeRow 241 = .ok (.invokevirtual 104, 3) := by decide +kernel
theorem dX2_takeRow_244 : decode cX2_takeRow 244 = .ok (.ifCond .eq 15, 3) := by decide +kernel
theorem dX2_takeRow_247 : decode cX2_takeRow 247 = .ok (.aload_n 0, 1) := by decide +kernel
theorem dX2_takeRow_248 : decode cX2_takeRow 248 = .ok (.iconst 0, 1) := by decide +kernel
theorem dX2_takeRow_249 : decode cX2_takeRow 249 = .ok (.invokevirtual 90, 3) := by decide +kernel
theorem dX2_takeRow_252 : decode cX2_takeRow 252 = .ok (.ifCond .eq 7, 3) := by decide +kernel
theorem dX2_takeRow_255 : decode cX2_takeRow 255 = .ok (.iconst 1, 1) := by decide +kernel
theorem dX2_takeRow_256 : decode cX2_takeRow 256 = .ok (.goto 4, 3) := by decide +kernel
theorem dX2_takeRow_259 : decode cX2_takeRow 259 = .ok (.iconst 0, 1) := by decide +kernel
theorem dX2_takeRow_260 : decode cX2_takeRow 260 = .ok (.istore_n 2, 1) := by decide +kernel
theorem dX2_takeRow_261 : decode cX2_takeRow 261 = .ok (.iload_n 2, 1) := by decide +kernel
theorem dX2_takeRow_262 : decode cX2_takeRow 262 = .ok (.ifCond .eq 14, 3) := by decide +kernel
theorem dX2_takeRow_265 : decode cX2_takeRow 265 = .ok (.aload_n 0, 1) := by decide +kernel
theorem dX2_takeRow_266 : decode cX2_takeRow 266 = .ok (.invokevirtual 109, 3) := by decide +kernel
theorem dX2_takeRow_269 : decode cX2_takeRow 269 = .ok (.ifCond .eq 7, 3) := by decide +kernel
theorem dX2_takeRow_272 : decode cX2_takeRow 272 = .ok (.iconst 1, 1) := by decide +kernel
theorem dX2_takeRow_273 : decode cX2_takeRow 273 = .ok (.goto 4, 3) := by decide +kernel
theorem dX2_takeRow_276 : decode cX2_takeRow 276 = .ok (.iconst 0, 1) := by decide +kernel
theorem dX2_takeRow_277 : decode cX2_takeRow 277 = .ok (.ireturn, 1) := by decide +kernel
theorem dX2_takeWord_0 : decode cX2_takeWord 0 = .ok (.aload_n 0, 1) := by decide +kernel
theorem dX2_takeWord_1 : decode cX2_takeWord 1 = .ok (.getfield 42, 3) := by decide +kernel
theorem dX2_takeWord_4 : decode cX2_takeWord 4 = .ok (.istore_n 1, 1) := by decide +kernel
theorem dX2_takeWord_5 : decode cX2_takeWord 5 = .ok (.iload_n 1, 1) := by decide +kernel
theorem dX2_takeWord_6 : decode cX2_takeWord 6 = .ok (.aload_n 0, 1) := by decide +kernel
theorem dX2_takeWord_7 : decode cX2_takeWord 7 = .ok (.getfield 12, 3) := by decide +kernel
theorem dX2_takeWord_10 : decode cX2_takeWord 10 = .ok (.getfield 57, 3) := by decide +kernel
theorem dX2_takeWord_13 : decode cX2_takeWord 13 = .ok (.if_icmp .ge 23, 3) := by decide +kernel
theorem dX2_takeWord_16 : decode cX2_takeWord 16 = .ok (.aload_n 0, 1) := by decide +kernel
theorem dX2_takeWord_17 : decode cX2_takeWord 17 = .ok (.getfield 12, 3) := by decide +kernel
theorem dX2_takeWord_20 : decode cX2_takeWord 20 = .ok (.iload_n 1, 1) := by decide +kernel
theorem dX2_takeWord_21 : decode cX2_takeWord 21 = .ok (.invokevirtual 112, 3) := by decide +kernel
theorem dX2_takeWord_24 : decode cX2_takeWord 24 = .ok (.invokestatic 116, 3) := by decide +kernel
theorem dX2_takeWord_27 : decode cX2_takeWord 27 = .ok (.ifCond .eq 9, 3) := by decide +kernel
theorem dX2_takeWord_30 : decode cX2_takeWord 30 = .ok (.iinc 1 1, 3) := by decide +kernel
theorem dX2_takeWord_33 : decode cX2_takeWord 33 = .ok (.goto (-28), 3) := by decide +kernel
theorem dX2_takeWord_36 : decode cX2_takeWord 36 = .ok (.iload_n 1, 1) := by decide +kernel
theorem dX2_takeWord_37 : decode cX2_takeWord 37 = .ok (.istore_n 2, 1) := by decide +kernel
theorem dX2_takeWord_38 : decode cX2_takeWord 38 = .ok (.iload_n 2, 1) := by decide +kernel
theorem dX2_takeWord_39 : decode cX2_takeWord 39 = .ok (.aload_n 0, 1) := by decide +kernel
theorem dX2_takeWord_40 : decode cX2_takeWord 40 = .ok (.getfield 12, 3) := by decide +kernel
theorem dX2_takeWord_43 : decode cX2_takeWord 43 = .ok (.getfield 57, 3) := by decide +kernel
theorem dX2_takeWord_46 : decode cX2_takeWord 46 = .ok (.if_icmp .ge 36, 3) := by decide +kernel
theorem dX2_takeWord_49 : decode cX2_takeWord 49 = .ok (.aload_n 0, 1) := by decide +kernel
theorem dX2_takeWord_50 : decode cX2_takeWord 50 = .ok (.getfield 12, 3) := by decide +kernel
theorem dX2_takeWord_53 : decode cX2_takeWord 53 = .ok (.iload_n 2, 1) := by decide +kernel
theorem dX2_takeWord_54 : decode cX2_takeWord 54 = .ok (.invokevirtual 112, 3) := by decide +kernel
theorem dX2_takeWord_57 : decode cX2_takeWord 57 = .ok (.invokestatic 116, 3) := by decide +kernel
theorem dX2_takeWord_60 : decode cX2_takeWord 60 = .ok (.ifCond .ne 22, 3) := by decide +kernel
theorem dX2_takeWord_63 : decode cX2_takeWord 63 = .ok (.aload_n 0, 1) := by decide +kernel
theorem dX2_takeWord_64 : decode cX2_takeWord 64 = .ok (.getfield 12, 3) := by decide +kernel
theorem dX2_takeWord_67 : decode cX2_takeWord 67 = .ok (.iload_n 2, 1) := by decide +kernel
theorem dX2_takeWord_68 : decode cX2_takeWord 68 = .ok (.invokevirtual 112, 3) := by decide +kernel
theorem dX2_takeWord_71 : decode cX2_takeWord 71 = .ok (.bipush 59, 2) := by decide +kernel
theorem dX2_takeWord_73 : decode cX2_takeWord 73 = .ok (.if_icmp .eq 9, 3) := by decide +kernel
theorem dX2_takeWord_76 : decode cX2_takeWord 76 = .ok (.iinc 2 1, 3) := by decide +kernel
theorem dX2_takeWord_79 : decode cX2_takeWord 79 = .ok (.goto (-41), 3) := by decide +kernel
theorem dX2_takeWord_82 : decode cX2_takeWord 82 = .ok (.iload_n 2, 1) := by decide +kernel
theorem dX2_takeWord_83 : decode cX2_takeWord 83 = .ok (.iload_n 1, 1) := by decide +kernel
theorem dX2_takeWord_84 : decode cX2_takeWord 84 = .ok (.if_icmp .ne 19, 3) := by decide +kernel
theorem dX2_takeWord_87 : decode cX2_takeWord 87 = .ok (.aload_n 0, 1) := by decide +kernel
theorem dX2_takeWord_88 : decode cX2_takeWord 88 = .ok (.getfield 12, 3) := by decide +kernel
theorem dX2_takeWord_91 : decode cX2_takeWord 91 = .ok (.iload_n 2, 1) := by decide +kernel
theorem dX2_takeWord_92 : decode cX2_takeWord 92 = .ok (.invokevirtual 112, 3) := by decide +kernel
theorem dX2_takeWord_95 : decode cX2_takeWord 95 = .ok (.bipush 59, 2) := by decide +kernel
theorem dX2_takeWord_97 : decode cX2_takeWord 97 = .ok (.if_icmp .ne 6, 3) := by decide +kernel
theorem dX2_takeWord_100 : decode cX2_takeWord 100 = .ok (.iinc 2 1, 3) := by decide +kernel
theorem dX2_takeWord_103 : decode cX2_takeWord 103 = .ok (.aload_n 0, 1) := by decide +kernel
theorem dX2_takeWord_104 : decode cX2_takeWord 104 = .ok (.iload_n 1, 1) := by decide +kernel
theorem dX2_takeWord_105 : decode cX2_takeWord 105 = .ok (.putfield 38, 3) := by decide +kernel
theorem dX2_takeWord_108 : decode cX2_takeWord 108 = .ok (.aload_n 0, 1) := by decide +kernel
theorem dX2_takeWord_109 : decode cX2_takeWord 109 = .ok (.iload_n 2, 1) := by decide +kernel
theorem dX2_takeWord_110 : decode cX2_takeWord 110 = .ok (.putfield 42, 3) := by decide +kernel
theorem dX2_takeWord_113 : decode cX2_takeWord 113 = .ok (.return_, 1) := by decide +kernel
theorem dX2_takeNewClock_0 : decode cX2_takeNewClock 0 = .ok (.aload_n 0, 1) := by decide +kernel
theorem dX2_takeNewClock_1 : decode cX2_takeNewClock 1 = .ok (.invokevirtual 54, 3) := by decide +kernel
theorem dX2_takeNewClock_4 : decode cX2_takeNewClock 4 = .ok (.aload_n 0, 1) := by decide +kernel
theorem dX2_takeNewClock_5 : decode cX2_takeNewClock 5 = .ok (.getfield 34, 3) := by decide +kernel
theorem dX2_takeNewClock_8 : decode cX2_takeNewClock 8 = .ok (.getfield 119, 3) := by decide +kernel
theorem dX2_takeNewClock_11 : decode cX2_takeNewClock 11 = .ok (.getfield 123, 3) := by decide +kernel
theorem dX2_takeNewClock_14 : decode cX2_takeNewClock 14 = .ok (.istore_n 1, 1) := by decide +kernel
theorem dX2_takeNewClock_15 : decode cX2_takeNewClock 15 = .ok (.aload_n 0, 1) := by decide +kernel
theorem dX2_takeNewClock_16 : decode cX2_takeNewClock 16 = .ok (.invokevirtual 128, 3) := by decide +kernel
theorem dX2_takeNewClock_19 : decode cX2_takeNewClock 19 = .ok (.ifCond .eq 30, 3) := by decide +kernel
theorem dX2_takeNewClock_22 : decode cX2_takeNewClock 22 = .ok (.iload_n 1, 1) := by decide +kernel
theorem dX2_takeNewClock_23 : decode cX2_takeNewClock 23 = .ok (.bipush 12, 2) := by decide +kernel
theorem dX2_takeNewClock_25 : decode cX2_takeNewClock 25 = .ok (.if_icmp .ge 24, 3) := by decide +kernel
theorem dX2_takeNewClock_28 : decode cX2_takeNewClock 28 = .ok (.aload_n 0, 1) := by decide +kernel
theorem dX2_takeNewClock_29 : decode cX2_takeNewClock 29 = .ok (.aload_n 0, 1) := by decide +kernel
theorem dX2_takeNewClock_30 : decode cX2_takeNewClock 30 = .ok (.getfield 38, 3) := by decide +kernel
theorem dX2_takeNewClock_33 : decode cX2_takeNewClock 33 = .ok (.aload_n 0, 1) := by decide +kernel
theorem dX2_takeNewClock_34 : decode cX2_takeNewClock 34 = .ok (.getfield 42, 3) := by decide +kernel
theorem dX2_takeNewClock_37 : decode cX2_takeNewClock 37 = .ok (.aload_n 0, 1) := by decide +kernel
theorem dX2_takeNewClock_38 : decode cX2_takeNewClock 38 = .ok (.getfield 38, 3) := by decide +kernel
theorem dX2_takeNewClock_41 : decode cX2_takeNewClock 41 = .ok (.isub, 1) := by decide +kernel
theorem dX2_takeNewClock_42 : decode cX2_takeNewClock 42 = .ok (.invokevirtual 131, 3) := by decide +kernel
theorem dX2_takeNewClock_45 : decode cX2_takeNewClock 45 = .ok (.iconst (-1), 1) := by decide +kernel
theorem dX2_takeNewClock_46 : decode cX2_takeNewClock 46 = .ok (.if_icmp .eq 5, 3) := by decide +kernel
theorem dX2_takeNewClock_49 : decode cX2_takeNewClock 49 = .ok (.iconst 0, 1) := by decide +kernel
theorem dX2_takeNewClock_50 : decode cX2_takeNewClock 50 = .ok (.ireturn, 1) := by decide +kernel
theorem dX2_takeNewClock_51 : decode cX2_takeNewClock 51 = .ok (.aload_n 0, 1) := by decide +kernel
theorem dX2_takeNewClock_52 : decode cX2_takeNewClock 52 = .ok (.getfield 18, 3) := by decide +kernel
theorem dX2_takeNewClock_55 : decode cX2_takeNewClock 55 = .ok (.iload_n 1, 1) := by decide +kernel
theorem dX2_takeNewClock_56 : decode cX2_takeNewClock 56 = .ok (.aload_n 0, 1) := by decide +kernel
theorem dX2_takeNewClock_57 : decode cX2_takeNewClock 57 = .ok (.getfield 38, 3) := by decide +kernel
theorem dX2_takeNewClock_60 : decode cX2_takeNewClock 60 = .ok (.iastore, 1) := by decide +kernel
theorem dX2_takeNewClock_61 : decode cX2_takeNewClock 61 = .ok (.aload_n 0, 1) := by decide +kernel
theorem dX2_takeNewClock_62 : decode cX2_takeNewClock 62 = .ok (.getfield 22, 3) := by decide +kernel
theorem dX2_takeNewClock_65 : decode cX2_takeNewClock 65 = .ok (.iload_n 1, 1) := by decide +kernel
theorem dX2_takeNewClock_66 : decode cX2_takeNewClock 66 = .ok (.aload_n 0, 1) := by decide +kernel
theorem dX2_takeNewClock_67 : decode cX2_takeNewClock 67 = .ok (.getfield 42, 3) := by decide +kernel
theorem dX2_takeNewClock_70 : decode cX2_takeNewClock 70 = .ok (.aload_n 0, 1) := by decide +kernel
theorem dX2_takeNewClock_71 : decode cX2_takeNewClock 71 = .ok (.getfield 38, 3) := by decide +kernel
theorem dX2_takeNewClock_74 : decode cX2_takeNewClock 74 = .ok (.isub, 1) := by decide +kernel
theorem dX2_takeNewClock_75 : decode cX2_takeNewClock 75 = .ok (.iastore, 1) := by decide +kernel
theorem dX2_takeNewClock_76 : decode cX2_takeNewClock 76 = .ok (.aload_n 0, 1) := by decide +kernel
theorem dX2_takeNewClock_77 : decode cX2_takeNewClock 77 = .ok (.getfield 34, 3) := by decide +kernel
theorem dX2_takeNewClock_80 : decode cX2_takeNewClock 80 = .ok (.getfield 119, 3) := by decide +kernel
theorem dX2_takeNewClock_83 : decode cX2_takeNewClock 83 = .ok (.aload_n 0, 1) := by decide +kernel
theorem dX2_takeNewClock_84 : decode cX2_takeNewClock 84 = .ok (.getfield 34, 3) := by decide +kernel
theorem dX2_takeNewClock_87 : decode cX2_takeNewClock 87 = .ok (.getfield 135, 3) := by decide +kernel
theorem dX2_takeNewClock_90 : decode cX2_takeNewClock 90 = .ok (.invokevirtual 138, 3) := by decide +kernel
theorem dX2_takeNewClock_93 : decode cX2_takeNewClock 93 = .ok (.aload_n 0, 1) := by decide +kernel
theorem dX2_takeNewClock_94 : decode cX2_takeNewClock 94 = .ok (.invokevirtual 81, 3) := by decide +kernel
theorem dX2_takeNewClock_97 : decode cX2_takeNewClock 97 = .ok (.iconst 1, 1) := by decide +kernel
theorem dX2_takeNewClock_98 : decode cX2_takeNewClock 98 = .ok (.ireturn, 1) := by decide +kernel
theorem dX2_takeTimes_0 : decode cX2_takeTimes 0 = .ok (.aload_n 0, 1) := by decide +kernel
theorem dX2_takeTimes_1 : decode cX2_takeTimes 1 = .ok (.iconst 1, 1) := by decide +kernel
theorem dX2_takeTimes_2 : decode cX2_takeTimes 2 = .ok (.ldc 108, 2) := by decide +kernel
theorem dX2_takeTimes_4 : decode cX2_takeTimes 4 = .ok (.invokevirtual 139, 3) := by decide +kernel
theorem dX2_takeTimes_7 : decode cX2_takeTimes 7 = .ok (.istore_n 1, 1) := by decide +kernel
theorem dX2_takeTimes_8 : decode cX2_takeTimes 8 = .ok (.iload_n 1, 1) := by decide +kernel
theorem dX2_takeTimes_9 : decode cX2_takeTimes 9 = .ok (.iconst (-1), 1) := by decide +kernel
theorem dX2_takeTimes_10 : decode cX2_takeTimes 10 = .ok (.if_icmp .ne 5, 3) := by decide +kernel
theorem dX2_takeTimes_13 : decode cX2_takeTimes 13 = .ok (.iconst 0, 1) := by decide +kernel
theorem dX2_takeTimes_14 : decode cX2_takeTimes 14 = .ok (.ireturn, 1) := by decide +kernel
theorem dX2_takeTimes_15 : decode cX2_takeTimes 15 = .ok (.aload_n 0, 1) := by decide +kernel
theorem dX2_takeTimes_16 : decode cX2_takeTimes 16 = .ok (.iconst 0, 1) := by decide +kernel
theorem dX2_takeTimes_17 : decode cX2_takeTimes 17 = .ok (.iload_n 1, 1) := by decide +kernel
theorem dX2_takeTimes_18 : decode cX2_takeTimes 18 = .ok (.iconst 1, 1) := by decide +kernel
theorem dX2_takeTimes_19 : decode cX2_takeTimes 19 = .ok (.isub, 1) := by decide +kernel
theorem dX2_takeTimes_20 : decode cX2_takeTimes 20 = .ok (.invokevirtual 139, 3) := by decide +kernel
theorem dX2_takeTimes_23 : decode cX2_takeTimes 23 = .ok (.istore_n 2, 1) := by decide +kernel
theorem dX2_takeTimes_24 : decode cX2_takeTimes 24 = .ok (.iload_n 2, 1) := by decide +kernel
theorem dX2_takeTimes_25 : decode cX2_takeTimes 25 = .ok (.iconst (-1), 1) := by decide +kernel
theorem dX2_takeTimes_26 : decode cX2_takeTimes 26 = .ok (.if_icmp .ne 5, 3) := by decide +kernel
theorem dX2_takeTimes_29 : decode cX2_takeTimes 29 = .ok (.iconst 0, 1) := by decide +kernel
theorem dX2_takeTimes_30 : decode cX2_takeTimes 30 = .ok (.ireturn, 1) := by decide +kernel
theorem dX2_takeTimes_31 : decode cX2_takeTimes 31 = .ok (.aload_n 0, 1) := by decide +kernel
theorem dX2_takeTimes_32 : decode cX2_takeTimes 32 = .ok (.iconst 0, 1) := by decide +kernel
theorem dX2_takeTimes_33 : decode cX2_takeTimes 33 = .ok (.iload_n 1, 1) := by decide +kernel
theorem dX2_takeTimes_34 : decode cX2_takeTimes 34 = .ok (.iconst 1, 1) := by decide +kernel
theorem dX2_takeTimes_35 : decode cX2_takeTimes 35 = .ok (.isub, 1) := by decide +kernel
theorem dX2_takeTimes_36 : decode cX2_takeTimes 36 = .ok (.invokevirtual 139, 3) := by decide +kernel
theorem dX2_takeTimes_39 : decode cX2_takeTimes 39 = .ok (.istore_n 3, 1) := by decide +kernel
theorem dX2_takeTimes_40 : decode cX2_takeTimes 40 = .ok (.iload_n 3, 1) := by decide +kernel
theorem dX2_takeTimes_41 : decode cX2_takeTimes 41 = .ok (.iconst (-1), 1) := by decide +kernel
theorem dX2_takeTimes_42 : decode cX2_takeTimes 42 = .ok (.if_icmp .eq 8, 3) := by decide +kernel
theorem dX2_takeTimes_45 : decode cX2_takeTimes 45 = .ok (.iload_n 3, 1) := by decide +kernel
theorem dX2_takeTimes_46 : decode cX2_takeTimes 46 = .ok (.iload_n 2, 1) := by decide +kernel
theorem dX2_takeTimes_47 : decode cX2_takeTimes 47 = .ok (.if_icmp .ne 5, 3) := by decide +kernel
theorem dX2_takeTimes_50 : decode cX2_takeTimes 50 = .ok (.iconst 0, 1) := by decide +kernel
theorem dX2_takeTimes_51 : decode cX2_takeTimes 51 = .ok (.ireturn, 1) := by decide +kernel
theorem dX2_takeTimes_52 : decode cX2_takeTimes 52 = .ok (.aload_n 0, 1) := by decide +kernel
theorem dX2_takeTimes_53 : decode cX2_takeTimes 53 = .ok (.getfield 34, 3) := by decide +kernel
theorem dX2_takeTimes_56 : decode cX2_takeTimes 56 = .ok (.getfield 119, 3) := by decide +kernel
theorem dX2_takeTimes_59 : decode cX2_takeTimes 59 = .ok (.iload_n 1, 1) := by decide +kernel
theorem dX2_takeTimes_60 : decode cX2_takeTimes 60 = .ok (.iload_n 2, 1) := by decide +kernel
theorem dX2_takeTimes_61 : decode cX2_takeTimes 61 = .ok (.iload_n 3, 1) := by decide +kernel
theorem dX2_takeTimes_62 : decode cX2_takeTimes 62 = .ok (.invokevirtual 142, 3) := by decide +kernel
theorem dX2_takeTimes_65 : decode cX2_takeTimes 65 = .ok (.iconst 1, 1) := by decide +kernel
theorem dX2_takeTimes_66 : decode cX2_takeTimes 66 = .ok (.ireturn, 1) := by decide +kernel
theorem dX2_takeLink_0 : decode cX2_takeLink 0 = .ok (.aload_n 0, 1) := by decide +kernel
theorem dX2_takeLink_1 : decode cX2_takeLink 1 = .ok (.invokevirtual 54, 3) := by decide +kernel
theorem dX2_takeLink_4 : decode cX2_takeLink 4 = .ok (.aload_n 0, 1) := by decide +kernel
theorem dX2_takeLink_5 : decode cX2_takeLink 5 = .ok (.getfield 34, 3) := by decide +kernel
theorem dX2_takeLink_8 : decode cX2_takeLink 8 = .ok (.getfield 135, 3) := by decide +kernel
theorem dX2_takeLink_11 : decode cX2_takeLink 11 = .ok (.iconst 1, 1) := by decide +kernel
theorem dX2_takeLink_12 : decode cX2_takeLink 12 = .ok (.isub, 1) := by decide +kernel
theorem dX2_takeLink_13 : decode cX2_takeLink 13 = .ok (.iconst 2, 1) := by decide +kernel
theorem dX2_takeLink_14 : decode cX2_takeLink 14 = .ok (.imul, 1) := by decide +kernel
theorem dX2_takeLink_15 : decode cX2_takeLink 15 = .ok (.iload_n 1, 1) := by decide +kernel
theorem dX2_takeLink_16 : decode cX2_takeLink 16 = .ok (.iadd, 1) := by decide +kernel
theorem dX2_takeLink_17 : decode cX2_takeLink 17 = .ok (.istore_n 2, 1) := by decide +kernel
theorem dX2_takeLink_18 : decode cX2_takeLink 18 = .ok (.aload_n 0, 1) := by decide +kernel
theorem dX2_takeLink_19 : decode cX2_takeLink 19 = .ok (.invokevirtual 128, 3) := by decide +kernel
theorem dX2_takeLink_22 : decode cX2_takeLink 22 = .ok (.ifCond .eq 16, 3) := by decide +kernel
theorem dX2_takeLink_25 : decode cX2_takeLink 25 = .ok (.iload_n 2, 1) := by decide +kernel
theorem dX2_takeLink_26 : decode cX2_takeLink 26 = .ok (.ifCond .lt 12, 3) := by decide +kernel
theorem dX2_takeLink_29 : decode cX2_takeLink 29 = .ok (.iload_n 2, 1) := by decide +kernel
theorem dX2_takeLink_30 : decode cX2_takeLink 30 = .ok (.aload_n 0, 1) := by decide +kernel
theorem dX2_takeLink_31 : decode cX2_takeLink 31 = .ok (.getfield 25, 3) := by decide +kernel
theorem dX2_takeLink_34 : decode cX2_takeLink 34 = .ok (.arraylength, 1) := by decide +kernel
theorem dX2_takeLink_35 : decode cX2_takeLink 35 = .ok (.if_icmp .lt 5, 3) := by decide +kernel
theorem dX2_takeLink_38 : decode cX2_takeLink 38 = .ok (.iconst 0, 1) := by decide +kernel
theorem dX2_takeLink_39 : decode cX2_takeLink 39 = .ok (.ireturn, 1) := by decide +kernel
theorem dX2_takeLink_40 : decode cX2_takeLink 40 = .ok (.aload_n 0, 1) := by decide +kernel
theorem dX2_takeLink_41 : decode cX2_takeLink 41 = .ok (.getfield 25, 3) := by decide +kernel
theorem dX2_takeLink_44 : decode cX2_takeLink 44 = .ok (.iload_n 2, 1) := by decide +kernel
theorem dX2_takeLink_45 : decode cX2_takeLink 45 = .ok (.aload_n 0, 1) := by decide +kernel
theorem dX2_takeLink_46 : decode cX2_takeLink 46 = .ok (.getfield 38, 3) := by decide +kernel
theorem dX2_takeLink_49 : decode cX2_takeLink 49 = .ok (.iastore, 1) := by decide +kernel
theorem dX2_takeLink_50 : decode cX2_takeLink 50 = .ok (.aload_n 0, 1) := by decide +kernel
theorem dX2_takeLink_51 : decode cX2_takeLink 51 = .ok (.getfield 28, 3) := by decide +kernel
theorem dX2_takeLink_54 : decode cX2_takeLink 54 = .ok (.iload_n 2, 1) := by decide +kernel
theorem dX2_takeLink_55 : decode cX2_takeLink 55 = .ok (.aload_n 0, 1) := by decide +kernel
theorem dX2_takeLink_56 : decode cX2_takeLink 56 = .ok (.getfield 42, 3) := by decide +kernel
theorem dX2_takeLink_59 : decode cX2_takeLink 59 = .ok (.aload_n 0, 1) := by decide +kernel
theorem dX2_takeLink_60 : decode cX2_takeLink 60 = .ok (.getfield 38, 3) := by decide +kernel
theorem dX2_takeLink_63 : decode cX2_takeLink 63 = .ok (.isub, 1) := by decide +kernel
theorem dX2_takeLink_64 : decode cX2_takeLink 64 = .ok (.iastore, 1) := by decide +kernel
theorem dX2_takeLink_65 : decode cX2_takeLink 65 = .ok (.aload_n 0, 1) := by decide +kernel
theorem dX2_takeLink_66 : decode cX2_takeLink 66 = .ok (.invokevirtual 81, 3) := by decide +kernel
theorem dX2_takeLink_69 : decode cX2_takeLink 69 = .ok (.iconst 1, 1) := by decide +kernel
theorem dX2_takeLink_70 : decode cX2_takeLink 70 = .ok (.ireturn, 1) := by decide +kernel
theorem dX2_takeRatio_0 : decode cX2_takeRatio 0 = .ok (.aload_n 0, 1) := by decide +kernel
theorem dX2_takeRatio_1 : decode cX2_takeRatio 1 = .ok (.iconst 1, 1) := by decide +kernel
theorem dX2_takeRatio_2 : decode cX2_takeRatio 2 = .ok (.sipush 1000, 3) := by decide +kernel
theorem dX2_takeRatio_5 : decode cX2_takeRatio 5 = .ok (.invokevirtual 139, 3) := by decide +kernel
theorem dX2_takeRatio_8 : decode cX2_takeRatio 8 = .ok (.istore_n 2, 1) := by decide +kernel
theorem dX2_takeRatio_9 : decode cX2_takeRatio 9 = .ok (.iload_n 2, 1) := by decide +kernel
theorem dX2_takeRatio_10 : decode cX2_takeRatio 10 = .ok (.iconst (-1), 1) := by decide +kernel
theorem dX2_takeRatio_11 : decode cX2_takeRatio 11 = .ok (.if_icmp .ne 5, 3) := by decide +kernel
theorem dX2_takeRatio_14 : decode cX2_takeRatio 14 = .ok (.iconst 0, 1) := by decide +kernel
theorem dX2_takeRatio_15 : decode cX2_takeRatio 15 = .ok (.ireturn, 1) := by decide +kernel
theorem dX2_takeRatio_16 : decode cX2_takeRatio 16 = .ok (.aload_n 0, 1) := by decide +kernel
theorem dX2_takeRatio_17 : decode cX2_takeRatio 17 = .ok (.iconst 1, 1) := by decide +kernel
theorem dX2_takeRatio_18 : decode cX2_takeRatio 18 = .ok (.sipush 1000, 3) := by decide +kernel
theorem dX2_takeRatio_21 : decode cX2_takeRatio 21 = .ok (.invokevirtual 139, 3) := by decide +kernel
theorem dX2_takeRatio_24 : decode cX2_takeRatio 24 = .ok (.istore_n 3, 1) := by decide +kernel
theorem dX2_takeRatio_25 : decode cX2_takeRatio 25 = .ok (.iload_n 3, 1) := by decide +kernel
theorem dX2_takeRatio_26 : decode cX2_takeRatio 26 = .ok (.iconst (-1), 1) := by decide +kernel
theorem dX2_takeRatio_27 : decode cX2_takeRatio 27 = .ok (.if_icmp .ne 5, 3) := by decide +kernel
theorem dX2_takeRatio_30 : decode cX2_takeRatio 30 = .ok (.iconst 0, 1) := by decide +kernel
theorem dX2_takeRatio_31 : decode cX2_takeRatio 31 = .ok (.ireturn, 1) := by decide +kernel
theorem dX2_takeRatio_32 : decode cX2_takeRatio 32 = .ok (.aload_n 0, 1) := by decide +kernel
theorem dX2_takeRatio_33 : decode cX2_takeRatio 33 = .ok (.getfield 34, 3) := by decide +kernel
theorem dX2_takeRatio_36 : decode cX2_takeRatio 36 = .ok (.getfield 119, 3) := by decide +kernel
theorem dX2_takeRatio_39 : decode cX2_takeRatio 39 = .ok (.iload_n 2, 1) := by decide +kernel
theorem dX2_takeRatio_40 : decode cX2_takeRatio 40 = .ok (.iload_n 3, 1) := by decide +kernel
theorem dX2_takeRatio_41 : decode cX2_takeRatio 41 = .ok (.iload_n 1, 1) := by decide +kernel
theorem dX2_takeRatio_42 : decode cX2_takeRatio 42 = .ok (.invokevirtual 146, 3) := by decide +kernel
theorem dX2_takeRatio_45 : decode cX2_takeRatio 45 = .ok (.iconst 1, 1) := by decide +kernel
theorem dX2_takeRatio_46 : decode cX2_takeRatio 46 = .ok (.ireturn, 1) := by decide +kernel
theorem dX2_takeValue_0 : decode cX2_takeValue 0 = .ok (.aload_n 0, 1) := by decide +kernel
theorem dX2_takeValue_1 : decode cX2_takeValue 1 = .ok (.iload_n 1, 1) := by decide +kernel
theorem dX2_takeValue_2 : decode cX2_takeValue 2 = .ok (.iload_n 2, 1) := by decide +kernel
theorem dX2_takeValue_3 : decode cX2_takeValue 3 = .ok (.invokevirtual 139, 3) := by decide +kernel
theorem dX2_takeValue_6 : decode cX2_takeValue 6 = .ok (.istore_n 3, 1) := by decide +kernel
theorem dX2_takeValue_7 : decode cX2_takeValue 7 = .ok (.iload_n 3, 1) := by decide +kernel
theorem dX2_takeValue_8 : decode cX2_takeValue 8 = .ok (.iconst (-1), 1) := by decide +kernel
theorem dX2_takeValue_9 : decode cX2_takeValue 9 = .ok (.if_icmp .ne 5, 3) := by decide +kernel
theorem dX2_takeValue_12 : decode cX2_takeValue 12 = .ok (.iconst 0, 1) := by decide +kernel
theorem dX2_takeValue_13 : decode cX2_takeValue 13 = .ok (.ireturn, 1) := by decide +kernel
theorem dX2_takeValue_14 : decode cX2_takeValue 14 = .ok (.aload_n 0, 1) := by decide +kernel
theorem dX2_takeValue_15 : decode cX2_takeValue 15 = .ok (.getfield 34, 3) := by decide +kernel
theorem dX2_takeValue_18 : decode cX2_takeValue 18 = .ok (.iload_n 3, 1) := by decide +kernel
theorem dX2_takeValue_19 : decode cX2_takeValue 19 = .ok (.invokevirtual 150, 3) := by decide +kernel
theorem dX2_takeValue_22 : decode cX2_takeValue 22 = .ok (.iconst 1, 1) := by decide +kernel
theorem dX2_takeValue_23 : decode cX2_takeValue 23 = .ok (.ireturn, 1) := by decide +kernel
theorem dX2_takeWhole_0 : decode cX2_takeWhole 0 = .ok (.aload_n 0, 1) := by decide +kernel
theorem dX2_takeWhole_1 : decode cX2_takeWhole 1 = .ok (.invokevirtual 54, 3) := by decide +kernel
theorem dX2_takeWhole_4 : decode cX2_takeWhole 4 = .ok (.aload_n 0, 1) := by decide +kernel
theorem dX2_takeWhole_5 : decode cX2_takeWhole 5 = .ok (.invokevirtual 153, 3) := by decide +kernel
theorem dX2_takeWhole_8 : decode cX2_takeWhole 8 = .ok (.istore_n 3, 1) := by decide +kernel
theorem dX2_takeWhole_9 : decode cX2_takeWhole 9 = .ok (.iload_n 3, 1) := by decide +kernel
theorem dX2_takeWhole_10 : decode cX2_takeWhole 10 = .ok (.iload_n 1, 1) := by decide +kernel
theorem dX2_takeWhole_11 : decode cX2_takeWhole 11 = .ok (.if_icmp .lt 8, 3) := by decide +kernel
theorem dX2_takeWhole_14 : decode cX2_takeWhole 14 = .ok (.iload_n 3, 1) := by decide +kernel
theorem dX2_takeWhole_15 : decode cX2_takeWhole 15 = .ok (.iload_n 2, 1) := by decide +kernel
theorem dX2_takeWhole_16 : decode cX2_takeWhole 16 = .ok (.if_icmp .le 5, 3) := by decide +kernel
theorem dX2_takeWhole_19 : decode cX2_takeWhole 19 = .ok (.iconst (-1), 1) := by decide +kernel
theorem dX2_takeWhole_20 : decode cX2_takeWhole 20 = .ok (.ireturn, 1) := by decide +kernel
theorem dX2_takeWhole_21 : decode cX2_takeWhole 21 = .ok (.aload_n 0, 1) := by decide +kernel
theorem dX2_takeWhole_22 : decode cX2_takeWhole 22 = .ok (.getfield 34, 3) := by decide +kernel
theorem dX2_takeWhole_25 : decode cX2_takeWhole 25 = .ok (.iload_n 3, 1) := by decide +kernel
theorem dX2_takeWhole_26 : decode cX2_takeWhole 26 = .ok (.invokevirtual 156, 3) := by decide +kernel
theorem dX2_takeWhole_29 : decode cX2_takeWhole 29 = .ok (.iload_n 3, 1) := by decide +kernel
theorem dX2_takeWhole_30 : decode cX2_takeWhole 30 = .ok (.ireturn, 1) := by decide +kernel
theorem dX2_takePath_0 : decode cX2_takePath 0 = .ok (.iconst 0, 1) := by decide +kernel
theorem dX2_takePath_1 : decode cX2_takePath 1 = .ok (.istore_n 1, 1) := by decide +kernel
theorem dX2_takePath_2 : decode cX2_takePath 2 = .ok (.iload_n 1, 1) := by decide +kernel
theorem dX2_takePath_3 : decode cX2_takePath 3 = .ok (.iconst 3, 1) := by decide +kernel
theorem dX2_takePath_4 : decode cX2_takePath 4 = .ok (.if_icmp .ge 37, 3) := by decide +kernel
theorem dX2_takePath_7 : decode cX2_takePath 7 = .ok (.aload_n 0, 1) := by decide +kernel
theorem dX2_takePath_8 : decode cX2_takePath 8 = .ok (.invokevirtual 54, 3) := by decide +kernel
theorem dX2_takePath_11 : decode cX2_takePath 11 = .ok (.aload_n 0, 1) := by decide +kernel
theorem dX2_takePath_12 : decode cX2_takePath 12 = .ok (.invokevirtual 159, 3) := by decide +kernel
theorem dX2_takePath_15 : decode cX2_takePath 15 = .ok (.ifCond .eq 10, 3) := by decide +kernel
theorem dX2_takePath_18 : decode cX2_takePath 18 = .ok (.aload_n 0, 1) := by decide +kernel
theorem dX2_takePath_19 : decode cX2_takePath 19 = .ok (.invokevirtual 81, 3) := by decide +kernel
theorem dX2_takePath_22 : decode cX2_takePath 22 = .ok (.goto 13, 3) := by decide +kernel
theorem dX2_takePath_25 : decode cX2_takePath 25 = .ok (.aload_n 0, 1) := by decide +kernel
theorem dX2_takePath_26 : decode cX2_takePath 26 = .ok (.iload_n 1, 1) := by decide +kernel
theorem dX2_takePath_27 : decode cX2_takePath 27 = .ok (.invokevirtual 162, 3) := by decide +kernel
theorem dX2_takePath_30 : decode cX2_takePath 30 = .ok (.ifCond .ne 5, 3) := by decide +kernel
theorem dX2_takePath_33 : decode cX2_takePath 33 = .ok (.iconst 0, 1) := by decide +kernel
theorem dX2_takePath_34 : decode cX2_takePath 34 = .ok (.ireturn, 1) := by decide +kernel
theorem dX2_takePath_35 : decode cX2_takePath 35 = .ok (.iinc 1 1, 3) := by decide +kernel
theorem dX2_takePath_38 : decode cX2_takePath 38 = .ok (.goto (-36), 3) := by decide +kernel
theorem dX2_takePath_41 : decode cX2_takePath 41 = .ok (.aload_n 0, 1) := by decide +kernel
theorem dX2_takePath_42 : decode cX2_takePath 42 = .ok (.getfield 34, 3) := by decide +kernel
theorem dX2_takePath_45 : decode cX2_takePath 45 = .ok (.invokevirtual 165, 3) := by decide +kernel
theorem dX2_takePath_48 : decode cX2_takePath 48 = .ok (.ireturn, 1) := by decide +kernel
theorem dX2_takePattern_0 : decode cX2_takePattern 0 = .ok (.aload_n 0, 1) := by decide +kernel
theorem dX2_takePattern_1 : decode cX2_takePattern 1 = .ok (.invokevirtual 54, 3) := by decide +kernel
theorem dX2_takePattern_4 : decode cX2_takePattern 4 = .ok (.aload_n 0, 1) := by decide +kernel
theorem dX2_takePattern_5 : decode cX2_takePattern 5 = .ok (.iload_n 1, 1) := by decide +kernel
theorem dX2_takePattern_6 : decode cX2_takePattern 6 = .ok (.invokevirtual 162, 3) := by decide +kernel
theorem dX2_takePattern_9 : decode cX2_takePattern 9 = .ok (.ireturn, 1) := by decide +kernel
theorem dX2_keepPattern_0 : decode cX2_keepPattern 0 = .ok (.aload_n 0, 1) := by decide +kernel
theorem dX2_keepPattern_1 : decode cX2_keepPattern 1 = .ok (.invokevirtual 168, 3) := by decide +kernel
theorem dX2_keepPattern_4 : decode cX2_keepPattern 4 = .ok (.ifCond .ne 5, 3) := by decide +kernel
theorem dX2_keepPattern_7 : decode cX2_keepPattern 7 = .ok (.iconst 0, 1) := by decide +kernel
theorem dX2_keepPattern_8 : decode cX2_keepPattern 8 = .ok (.ireturn, 1) := by decide +kernel
theorem dX2_keepPattern_9 : decode cX2_keepPattern 9 = .ok (.aload_n 0, 1) := by decide +kernel
theorem dX2_keepPattern_10 : decode cX2_keepPattern 10 = .ok (.invokevirtual 81, 3) := by decide +kernel
theorem dX2_keepPattern_13 : decode cX2_keepPattern 13 = .ok (.aload_n 0, 1) := by decide +kernel
theorem dX2_keepPattern_14 : decode cX2_keepPattern 14 = .ok (.getfield 34, 3) := by decide +kernel
theorem dX2_keepPattern_17 : decode cX2_keepPattern 17 = .ok (.iload_n 1, 1) := by decide +kernel
theorem dX2_keepPattern_18 : decode cX2_keepPattern 18 = .ok (.aload_n 0, 1) := by decide +kernel
theorem dX2_keepPattern_19 : decode cX2_keepPattern 19 = .ok (.getfield 42, 3) := by decide +kernel
theorem dX2_keepPattern_22 : decode cX2_keepPattern 22 = .ok (.aload_n 0, 1) := by decide +kernel
theorem dX2_keepPattern_23 : decode cX2_keepPattern 23 = .ok (.getfield 38, 3) := by decide +kernel
theorem dX2_keepPattern_26 : decode cX2_keepPattern 26 = .ok (.isub, 1) := by decide +kernel
theorem dX2_keepPattern_27 : decode cX2_keepPattern 27 = .ok (.invokevirtual 171, 3) := by decide +kernel
theorem dX2_keepPattern_30 : decode cX2_keepPattern 30 = .ok (.iconst 1, 1) := by decide +kernel
theorem dX2_keepPattern_31 : decode cX2_keepPattern 31 = .ok (.ireturn, 1) := by decide +kernel
theorem dX2_takeEnd_0 : decode cX2_takeEnd 0 = .ok (.aload_n 0, 1) := by decide +kernel
theorem dX2_takeEnd_1 : decode cX2_takeEnd 1 = .ok (.invokevirtual 54, 3) := by decide +kernel
theorem dX2_takeEnd_4 : decode cX2_takeEnd 4 = .ok (.aload_n 0, 1) := by decide +kernel
theorem dX2_takeEnd_5 : decode cX2_takeEnd 5 = .ok (.getfield 12, 3) := by decide +kernel
theorem dX2_takeEnd_8 : decode cX2_takeEnd 8 = .ok (.aload_n 0, 1) := by decide +kernel
theorem dX2_takeEnd_9 : decode cX2_takeEnd 9 = .ok (.getfield 38, 3) := by decide +kernel
theorem dX2_takeEnd_12 : decode cX2_takeEnd 12 = .ok (.invokevirtual 112, 3) := by decide +kernel
theorem dX2_takeEnd_15 : decode cX2_takeEnd 15 = .ok (.bipush 59, 2) := by decide +kernel
theorem dX2_takeEnd_17 : decode cX2_takeEnd 17 = .ok (.if_icmp .eq 5, 3) := by decide +kernel
theorem dX2_takeEnd_20 : decode cX2_takeEnd 20 = .ok (.iconst 0, 1) := by decide +kernel
theorem dX2_takeEnd_21 : decode cX2_takeEnd 21 = .ok (.ireturn, 1) := by decide +kernel
theorem dX2_takeEnd_22 : decode cX2_takeEnd 22 = .ok (.aload_n 0, 1) := by decide +kernel
theorem dX2_takeEnd_23 : decode cX2_takeEnd 23 = .ok (.getfield 34, 3) := by decide +kernel
theorem dX2_takeEnd_26 : decode cX2_takeEnd 26 = .ok (.bipush 59, 2) := by decide +kernel
theorem dX2_takeEnd_28 : decode cX2_takeEnd 28 = .ok (.invokevirtual 175, 3) := by decide +kernel
theorem dX2_takeEnd_31 : decode cX2_takeEnd 31 = .ok (.aload_n 0, 1) := by decide +kernel
theorem dX2_takeEnd_32 : decode cX2_takeEnd 32 = .ok (.getfield 34, 3) := by decide +kernel
theorem dX2_takeEnd_35 : decode cX2_takeEnd 35 = .ok (.bipush 10, 2) := by decide +kernel
theorem dX2_takeEnd_37 : decode cX2_takeEnd 37 = .ok (.invokevirtual 175, 3) := by decide +kernel
theorem dX2_takeEnd_40 : decode cX2_takeEnd 40 = .ok (.iconst 1, 1) := by decide +kernel
theorem dX2_takeEnd_41 : decode cX2_takeEnd 41 = .ok (.ireturn, 1) := by decide +kernel
theorem dX2_printWord_0 : decode cX2_printWord 0 = .ok (.aload_n 0, 1) := by decide +kernel
theorem dX2_printWord_1 : decode cX2_printWord 1 = .ok (.getfield 34, 3) := by decide +kernel
theorem dX2_printWord_4 : decode cX2_printWord 4 = .ok (.invokevirtual 178, 3) := by decide +kernel
theorem dX2_printWord_7 : decode cX2_printWord 7 = .ok (.aload_n 0, 1) := by decide +kernel
theorem dX2_printWord_8 : decode cX2_printWord 8 = .ok (.getfield 38, 3) := by decide +kernel
theorem dX2_printWord_11 : decode cX2_printWord 11 = .ok (.istore_n 1, 1) := by decide +kernel
theorem dX2_printWord_12 : decode cX2_printWord 12 = .ok (.iload_n 1, 1) := by decide +kernel
theorem dX2_printWord_13 : decode cX2_printWord 13 = .ok (.aload_n 0, 1) := by decide +kernel
theorem dX2_printWord_14 : decode cX2_printWord 14 = .ok (.getfield 42, 3) := by decide +kernel
theorem dX2_printWord_17 : decode cX2_printWord 17 = .ok (.if_icmp .ge 24, 3) := by decide +kernel
theorem dX2_printWord_20 : decode cX2_printWord 20 = .ok (.aload_n 0, 1) := by decide +kernel
theorem dX2_printWord_21 : decode cX2_printWord 21 = .ok (.getfield 34, 3) := by decide +kernel
theorem dX2_printWord_24 : decode cX2_printWord 24 = .ok (.aload_n 0, 1) := by decide +kernel
theorem dX2_printWord_25 : decode cX2_printWord 25 = .ok (.getfield 12, 3) := by decide +kernel
theorem dX2_printWord_28 : decode cX2_printWord 28 = .ok (.iload_n 1, 1) := by decide +kernel
theorem dX2_printWord_29 : decode cX2_printWord 29 = .ok (.invokevirtual 112, 3) := by decide +kernel
theorem dX2_printWord_32 : decode cX2_printWord 32 = .ok (.invokevirtual 175, 3) := by decide +kernel
theorem dX2_printWord_35 : decode cX2_printWord 35 = .ok (.iinc 1 1, 3) := by decide +kernel
theorem dX2_printWord_38 : decode cX2_printWord 38 = .ok (.goto (-26), 3) := by decide +kernel
theorem dX2_printWord_41 : decode cX2_printWord 41 = .ok (.return_, 1) := by decide +kernel
theorem dX2_sortInHand_0 : decode cX2_sortInHand 0 = .ok (.iconst 0, 1) := by decide +kernel
theorem dX2_sortInHand_1 : decode cX2_sortInHand 1 = .ok (.istore_n 1, 1) := by decide +kernel
theorem dX2_sortInHand_2 : decode cX2_sortInHand 2 = .ok (.iload_n 1, 1) := by decide +kernel
theorem dX2_sortInHand_3 : decode cX2_sortInHand 3 = .ok (.bipush 10, 2) := by decide +kernel
theorem dX2_sortInHand_5 : decode cX2_sortInHand 5 = .ok (.if_icmp .ge 22, 3) := by decide +kernel
theorem dX2_sortInHand_8 : decode cX2_sortInHand 8 = .ok (.aload_n 0, 1) := by decide +kernel
theorem dX2_sortInHand_9 : decode cX2_sortInHand 9 = .ok (.iload_n 1, 1) := by decide +kernel
theorem dX2_sortInHand_10 : decode cX2_sortInHand 10 = .ok (.invokestatic 181, 3) := by decide +kernel
theorem dX2_sortInHand_13 : decode cX2_sortInHand 13 = .ok (.invokevirtual 185, 3) := by decide +kernel
theorem dX2_sortInHand_16 : decode cX2_sortInHand 16 = .ok (.ifCond .eq 5, 3) := by decide +kernel
theorem dX2_sortInHand_19 : decode cX2_sortInHand 19 = .ok (.iload_n 1, 1) := by decide +kernel
theorem dX2_sortInHand_20 : decode cX2_sortInHand 20 = .ok (.ireturn, 1) := by decide +kernel
theorem dX2_sortInHand_21 : decode cX2_sortInHand 21 = .ok (.iinc 1 1, 3) := by decide +kernel
theorem dX2_sortInHand_24 : decode cX2_sortInHand 24 = .ok (.goto (-22), 3) := by decide +kernel
theorem dX2_sortInHand_27 : decode cX2_sortInHand 27 = .ok (.iconst (-1), 1) := by decide +kernel
theorem dX2_sortInHand_28 : decode cX2_sortInHand 28 = .ok (.ireturn, 1) := by decide +kernel
theorem dX2_isInHand_0 : decode cX2_isInHand 0 = .ok (.aload_n 1, 1) := by decide +kernel
theorem dX2_isInHand_1 : decode cX2_isInHand 1 = .ok (.invokevirtual 189, 3) := by decide +kernel
theorem dX2_isInHand_4 : decode cX2_isInHand 4 = .ok (.aload_n 0, 1) := by decide +kernel
theorem dX2_isInHand_5 : decode cX2_isInHand 5 = .ok (.getfield 42, 3) := by decide +kernel
theorem dX2_isInHand_8 : decode cX2_isInHand 8 = .ok (.aload_n 0, 1) := by decide +kernel
theorem dX2_isInHand_9 : decode cX2_isInHand 9 = .ok (.getfield 38, 3) := by decide +kernel
theorem dX2_isInHand_12 : decode cX2_isInHand 12 = .ok (.isub, 1) := by decide +kernel
theorem dX2_isInHand_13 : decode cX2_isInHand 13 = .ok (.if_icmp .eq 5, 3) := by decide +kernel
theorem dX2_isInHand_16 : decode cX2_isInHand 16 = .ok (.iconst 0, 1) := by decide +kernel
theorem dX2_isInHand_17 : decode cX2_isInHand 17 = .ok (.ireturn, 1) := by decide +kernel
theorem dX2_isInHand_18 : decode cX2_isInHand 18 = .ok (.iconst 0, 1) := by decide +kernel
theorem dX2_isInHand_19 : decode cX2_isInHand 19 = .ok (.istore_n 2, 1) := by decide +kernel
theorem dX2_isInHand_20 : decode cX2_isInHand 20 = .ok (.iload_n 2, 1) := by decide +kernel
theorem dX2_isInHand_21 : decode cX2_isInHand 21 = .ok (.aload_n 1, 1) := by decide +kernel
theorem dX2_isInHand_22 : decode cX2_isInHand 22 = .ok (.invokevirtual 189, 3) := by decide +kernel
theorem dX2_isInHand_25 : decode cX2_isInHand 25 = .ok (.if_icmp .ge 32, 3) := by decide +kernel
theorem dX2_isInHand_28 : decode cX2_isInHand 28 = .ok (.aload_n 1, 1) := by decide +kernel
theorem dX2_isInHand_29 : decode cX2_isInHand 29 = .ok (.iload_n 2, 1) := by decide +kernel
theorem dX2_isInHand_30 : decode cX2_isInHand 30 = .ok (.invokevirtual 193, 3) := by decide +kernel
theorem dX2_isInHand_33 : decode cX2_isInHand 33 = .ok (.aload_n 0, 1) := by decide +kernel
theorem dX2_isInHand_34 : decode cX2_isInHand 34 = .ok (.getfield 12, 3) := by decide +kernel
theorem dX2_isInHand_37 : decode cX2_isInHand 37 = .ok (.aload_n 0, 1) := by decide +kernel
theorem dX2_isInHand_38 : decode cX2_isInHand 38 = .ok (.getfield 38, 3) := by decide +kernel
theorem dX2_isInHand_41 : decode cX2_isInHand 41 = .ok (.iload_n 2, 1) := by decide +kernel
theorem dX2_isInHand_42 : decode cX2_isInHand 42 = .ok (.iadd, 1) := by decide +kernel
theorem dX2_isInHand_43 : decode cX2_isInHand 43 = .ok (.invokevirtual 112, 3) := by decide +kernel
theorem dX2_isInHand_46 : decode cX2_isInHand 46 = .ok (.if_icmp .eq 5, 3) := by decide +kernel
theorem dX2_isInHand_49 : decode cX2_isInHand 49 = .ok (.iconst 0, 1) := by decide +kernel
theorem dX2_isInHand_50 : decode cX2_isInHand 50 = .ok (.ireturn, 1) := by decide +kernel
theorem dX2_isInHand_51 : decode cX2_isInHand 51 = .ok (.iinc 2 1, 3) := by decide +kernel
theorem dX2_isInHand_54 : decode cX2_isInHand 54 = .ok (.goto (-34), 3) := by decide +kernel
theorem dX2_isInHand_57 : decode cX2_isInHand 57 = .ok (.iconst 1, 1) := by decide +kernel
theorem dX2_isInHand_58 : decode cX2_isInHand 58 = .ok (.ireturn, 1) := by decide +kernel
theorem dX2_isAnyInHand_0 : decode cX2_isAnyInHand 0 = .ok (.aload_n 0, 1) := by decide +kernel
theorem dX2_isAnyInHand_1 : decode cX2_isAnyInHand 1 = .ok (.getfield 42, 3) := by decide +kernel
theorem dX2_isAnyInHand_4 : decode cX2_isAnyInHand 4 = .ok (.aload_n 0, 1) := by decide +kernel
theorem dX2_isAnyInHand_5 : decode cX2_isAnyInHand 5 = .ok (.getfield 38, 3) := by decide +kernel
theorem dX2_isAnyInHand_8 : decode cX2_isAnyInHand 8 = .ok (.isub, 1) := by decide +kernel
theorem dX2_isAnyInHand_9 : decode cX2_isAnyInHand 9 = .ok (.iconst 1, 1) := by decide +kernel
theorem dX2_isAnyInHand_10 : decode cX2_isAnyInHand 10 = .ok (.if_icmp .ne 23, 3) := by decide +kernel
theorem dX2_isAnyInHand_13 : decode cX2_isAnyInHand 13 = .ok (.aload_n 0, 1) := by decide +kernel
theorem dX2_isAnyInHand_14 : decode cX2_isAnyInHand 14 = .ok (.getfield 12, 3) := by decide +kernel
theorem dX2_isAnyInHand_17 : decode cX2_isAnyInHand 17 = .ok (.aload_n 0, 1) := by decide +kernel
theorem dX2_isAnyInHand_18 : decode cX2_isAnyInHand 18 = .ok (.getfield 38, 3) := by decide +kernel
theorem dX2_isAnyInHand_21 : decode cX2_isAnyInHand 21 = .ok (.invokevirtual 112, 3) := by decide +kernel
theorem dX2_isAnyInHand_24 : decode cX2_isAnyInHand 24 = .ok (.bipush 45, 2) := by decide +kernel
theorem dX2_isAnyInHand_26 : decode cX2_isAnyInHand 26 = .ok (.if_icmp .ne 7, 3) := by decide +kernel
theorem dX2_isAnyInHand_29 : decode cX2_isAnyInHand 29 = .ok (.iconst 1, 1) := by decide +kernel
theorem dX2_isAnyInHand_30 : decode cX2_isAnyInHand 30 = .ok (.goto 4, 3) := by decide +kernel
theorem dX2_isAnyInHand_33 : decode cX2_isAnyInHand 33 = .ok (.iconst 0, 1) := by decide +kernel
theorem dX2_isAnyInHand_34 : decode cX2_isAnyInHand 34 = .ok (.ireturn, 1) := by decide +kernel
theorem dX2_isNameInHand_0 : decode cX2_isNameInHand 0 = .ok (.aload_n 0, 1) := by decide +kernel
theorem dX2_isNameInHand_1 : decode cX2_isNameInHand 1 = .ok (.getfield 42, 3) := by decide +kernel
theorem dX2_isNameInHand_4 : decode cX2_isNameInHand 4 = .ok (.aload_n 0, 1) := by decide +kernel
theorem dX2_isNameInHand_5 : decode cX2_isNameInHand 5 = .ok (.getfield 38, 3) := by decide +kernel
theorem dX2_isNameInHand_8 : decode cX2_isNameInHand 8 = .ok (.if_icmp .eq 17, 3) := by decide +kernel
theorem dX2_isNameInHand_11 : decode cX2_isNameInHand 11 = .ok (.aload_n 0, 1) := by decide +kernel
theorem dX2_isNameInHand_12 : decode cX2_isNameInHand 12 = .ok (.getfield 42, 3) := by decide +kernel
theorem dX2_isNameInHand_15 : decode cX2_isNameInHand 15 = .ok (.aload_n 0, 1) := by decide +kernel
theorem dX2_isNameInHand_16 : decode cX2_isNameInHand 16 = .ok (.getfield 38, 3) := by decide +kernel
theorem dX2_isNameInHand_19 : decode cX2_isNameInHand 19 = .ok (.isub, 1) := by decide +kernel
theorem dX2_isNameInHand_20 : decode cX2_isNameInHand 20 = .ok (.bipush 8, 2) := by decide +kernel
theorem dX2_isNameInHand_22 : decode cX2_isNameInHand 22 = .ok (.if_icmp .le 5, 3) := by decide +kernel
theorem dX2_isNameInHand_25 : decode cX2_isNameInHand 25 = .ok (.iconst 0, 1) := by decide +kernel
theorem dX2_isNameInHand_26 : decode cX2_isNameInHand 26 = .ok (.ireturn, 1) := by decide +kernel
theorem dX2_isNameInHand_27 : decode cX2_isNameInHand 27 = .ok (.aload_n 0, 1) := by decide +kernel
theorem dX2_isNameInHand_28 : decode cX2_isNameInHand 28 = .ok (.getfield 38, 3) := by decide +kernel
theorem dX2_isNameInHand_31 : decode cX2_isNameInHand 31 = .ok (.istore_n 1, 1) := by decide +kernel
theorem dX2_isNameInHand_32 : decode cX2_isNameInHand 32 = .ok (.iload_n 1, 1) := by decide +kernel
theorem dX2_isNameInHand_33 : decode cX2_isNameInHand 33 = .ok (.aload_n 0, 1) := by decide +kernel
theorem dX2_isNameInHand_34 : decode cX2_isNameInHand 34 = .ok (.getfield 42, 3) := by decide +kernel
theorem dX2_isNameInHand_37 : decode cX2_isNameInHand 37 = .ok (.if_icmp .ge 25, 3) := by decide +kernel
theorem dX2_isNameInHand_40 : decode cX2_isNameInHand 40 = .ok (.aload_n 0, 1) := by decide +kernel
theorem dX2_isNameInHand_41 : decode cX2_isNameInHand 41 = .ok (.getfield 12, 3) := by decide +kernel
theorem dX2_isNameInHand_44 : decode cX2_isNameInHand 44 = .ok (.iload_n 1, 1) := by decide +kernel
theorem dX2_isNameInHand_45 : decode cX2_isNameInHand 45 = .ok (.invokevirtual 112, 3) := by decide +kernel
theorem dX2_isNameInHand_48 : decode cX2_isNameInHand 48 = .ok (.invokestatic 196, 3) := by decide +kernel
theorem dX2_isNameInHand_51 : decode cX2_isNameInHand 51 = .ok (.ifCond .ne 5, 3) := by decide +kernel
theorem dX2_isNameInHand_54 : decode cX2_isNameInHand 54 = .ok (.iconst 0, 1) := by decide +kernel
theorem dX2_isNameInHand_55 : decode cX2_isNameInHand 55 = .ok (.ireturn, 1) := by decide +kernel
theorem dX2_isNameInHand_56 : decode cX2_isNameInHand 56 = .ok (.iinc 1 1, 3) := by decide +kernel
theorem dX2_isNameInHand_59 : decode cX2_isNameInHand 59 = .ok (.goto (-27), 3) := by decide +kernel
theorem dX2_isNameInHand_62 : decode cX2_isNameInHand 62 = .ok (.iconst 1, 1) := by decide +kernel
theorem dX2_isNameInHand_63 : decode cX2_isNameInHand 63 = .ok (.ireturn, 1) := by decide +kernel
theorem dX2_isPatternInHand_0 : decode cX2_isPatternInHand 0 = .ok (.aload_n 0, 1) := by decide +kernel
theorem dX2_isPatternInHand_1 : decode cX2_isPatternInHand 1 = .ok (.getfield 42, 3) := by decide +kernel
theorem dX2_isPatternInHand_4 : decode cX2_isPatternInHand 4 = .ok (.aload_n 0, 1) := by decide +kernel
theorem dX2_isPatternInHand_5 : decode cX2_isPatternInHand 5 = .ok (.getfield 38, 3) := by decide +kernel
theorem dX2_isPatternInHand_8 : decode cX2_isPatternInHand 8 = .ok (.if_icmp .eq 17, 3) := by decide +kernel
theorem dX2_isPatternInHand_11 : decode cX2_isPatternInHand 11 = .ok (.aload_n 0, 1) := by decide +kernel
theorem dX2_isPatternInHand_12 : decode cX2_isPatternInHand 12 = .ok (.getfield 42, 3) := by decide +kernel
theorem dX2_isPatternInHand_15 : decode cX2_isPatternInHand 15 = .ok (.aload_n 0, 1) := by decide +kernel
theorem dX2_isPatternInHand_16 : decode cX2_isPatternInHand 16 = .ok (.getfield 38, 3) := by decide +kernel
theorem dX2_isPatternInHand_19 : decode cX2_isPatternInHand 19 = .ok (.isub, 1) := by decide +kernel
theorem dX2_isPatternInHand_20 : decode cX2_isPatternInHand 20 = .ok (.bipush 16, 2) := by decide +kernel
theorem dX2_isPatternInHand_22 : decode cX2_isPatternInHand 22 = .ok (.if_icmp .le 5, 3) := by decide +kernel
theorem dX2_isPatternInHand_25 : decode cX2_isPatternInHand 25 = .ok (.iconst 0, 1) := by decide +kernel
theorem dX2_isPatternInHand_26 : decode cX2_isPatternInHand 26 = .ok (.ireturn, 1) := by decide +kernel
theorem dX2_isPatternInHand_27 : decode cX2_isPatternInHand 27 = .ok (.aload_n 0, 1) := by decide +kernel
theorem dX2_isPatternInHand_28 : decode cX2_isPatternInHand 28 = .ok (.getfield 38, 3) := by decide +kernel
theorem dX2_isPatternInHand_31 : decode cX2_isPatternInHand 31 = .ok (.istore_n 1, 1) := by decide +kernel
theorem dX2_isPatternInHand_32 : decode cX2_isPatternInHand 32 = .ok (.iload_n 1, 1) := by decide +kernel
theorem dX2_isPatternInHand_33 : decode cX2_isPatternInHand 33 = .ok (.aload_n 0, 1) := by decide +kernel
theorem dX2_isPatternInHand_34 : decode cX2_isPatternInHand 34 = .ok (.getfield 42, 3) := by decide +kernel
theorem dX2_isPatternInHand_37 : decode cX2_isPatternInHand 37 = .ok (.if_icmp .ge 39, 3) := by decide +kernel
theorem dX2_isPatternInHand_40 : decode cX2_isPatternInHand 40 = .ok (.aload_n 0, 1) := by decide +kernel
theorem dX2_isPatternInHand_41 : decode cX2_isPatternInHand 41 = .ok (.getfield 12, 3) := by decide +kernel
theorem dX2_isPatternInHand_44 : decode cX2_isPatternInHand 44 = .ok (.iload_n 1, 1) := by decide +kernel
theorem dX2_isPatternInHand_45 : decode cX2_isPatternInHand 45 = .ok (.invokevirtual 112, 3) := by decide +kernel
theorem dX2_isPatternInHand_48 : decode cX2_isPatternInHand 48 = .ok (.istore_n 2, 1) := by decide +kernel
theorem dX2_isPatternInHand_49 : decode cX2_isPatternInHand 49 = .ok (.iload_n 2, 1) := by decide +kernel
theorem dX2_isPatternInHand_50 : decode cX2_isPatternInHand 50 = .ok (.invokestatic 199, 3) := by decide +kernel
theorem dX2_isPatternInHand_53 : decode cX2_isPatternInHand 53 = .ok (.ifCond .ne 17, 3) := by decide +kernel
theorem dX2_isPatternInHand_56 : decode cX2_isPatternInHand 56 = .ok (.iload_n 2, 1) := by decide +kernel
theorem dX2_isPatternInHand_57 : decode cX2_isPatternInHand 57 = .ok (.bipush 42, 2) := by decide +kernel
theorem dX2_isPatternInHand_59 : decode cX2_isPatternInHand 59 = .ok (.if_icmp .eq 11, 3) := by decide +kernel
theorem dX2_isPatternInHand_62 : decode cX2_isPatternInHand 62 = .ok (.iload_n 2, 1) := by decide +kernel
theorem dX2_isPatternInHand_63 : decode cX2_isPatternInHand 63 = .ok (.bipush 63, 2) := by decide +kernel
theorem dX2_isPatternInHand_65 : decode cX2_isPatternInHand 65 = .ok (.if_icmp .eq 5, 3) := by decide +kernel
theorem dX2_isPatternInHand_68 : decode cX2_isPatternInHand 68 = .ok (.iconst 0, 1) := by decide +kernel
theorem dX2_isPatternInHand_69 : decode cX2_isPatternInHand 69 = .ok (.ireturn, 1) := by decide +kernel
theorem dX2_isPatternInHand_70 : decode cX2_isPatternInHand 70 = .ok (.iinc 1 1, 3) := by decide +kernel
theorem dX2_isPatternInHand_73 : decode cX2_isPatternInHand 73 = .ok (.goto (-41), 3) := by decide +kernel
theorem dX2_isPatternInHand_76 : decode cX2_isPatternInHand 76 = .ok (.iconst 1, 1) := by decide +kernel
theorem dX2_isPatternInHand_77 : decode cX2_isPatternInHand 77 = .ok (.ireturn, 1) := by decide +kernel
theorem dX2_wholeInHand_0 : decode cX2_wholeInHand 0 = .ok (.aload_n 0, 1) := by decide +kernel
theorem dX2_wholeInHand_1 : decode cX2_wholeInHand 1 = .ok (.getfield 42, 3) := by decide +kernel
theorem dX2_wholeInHand_4 : decode cX2_wholeInHand 4 = .ok (.aload_n 0, 1) := by decide +kernel
theorem dX2_wholeInHand_5 : decode cX2_wholeInHand 5 = .ok (.getfield 38, 3) := by decide +kernel
theorem dX2_wholeInHand_8 : decode cX2_wholeInHand 8 = .ok (.if_icmp .eq 17, 3) := by decide +kernel
theorem dX2_wholeInHand_11 : decode cX2_wholeInHand 11 = .ok (.aload_n 0, 1) := by decide +kernel
theorem dX2_wholeInHand_12 : decode cX2_wholeInHand 12 = .ok (.getfield 42, 3) := by decide +kernel
theorem dX2_wholeInHand_15 : decode cX2_wholeInHand 15 = .ok (.aload_n 0, 1) := by decide +kernel
theorem dX2_wholeInHand_16 : decode cX2_wholeInHand 16 = .ok (.getfield 38, 3) := by decide +kernel
theorem dX2_wholeInHand_19 : decode cX2_wholeInHand 19 = .ok (.isub, 1) := by decide +kernel
theorem dX2_wholeInHand_20 : decode cX2_wholeInHand 20 = .ok (.bipush 6, 2) := by decide +kernel
theorem dX2_wholeInHand_22 : decode cX2_wholeInHand 22 = .ok (.if_icmp .le 5, 3) := by decide +kernel
theorem dX2_wholeInHand_25 : decode cX2_wholeInHand 25 = .ok (.iconst (-1), 1) := by decide +kernel
theorem dX2_wholeInHand_26 : decode cX2_wholeInHand 26 = .ok (.ireturn, 1) := by decide +kernel
theorem dX2_wholeInHand_27 : decode cX2_wholeInHand 27 = .ok (.iconst 0, 1) := by decide +kernel
theorem dX2_wholeInHand_28 : decode cX2_wholeInHand 28 = .ok (.istore_n 1, 1) := by decide +kernel
theorem dX2_wholeInHand_29 : decode cX2_wholeInHand 29 = .ok (.aload_n 0, 1) := by decide +kernel
theorem dX2_wholeInHand_30 : decode cX2_wholeInHand 30 = .ok (.getfield 38, 3) := by decide +kernel
theorem dX2_wholeInHand_33 : decode cX2_wholeInHand 33 = .ok (.istore_n 2, 1) := by decide +kernel
theorem dX2_wholeInHand_34 : decode cX2_wholeInHand 34 = .ok (.iload_n 2, 1) := by decide +kernel
theorem dX2_wholeInHand_35 : decode cX2_wholeInHand 35 = .ok (.aload_n 0, 1) := by decide +kernel
theorem dX2_wholeInHand_36 : decode cX2_wholeInHand 36 = .ok (.getfield 42, 3) := by decide +kernel
theorem dX2_wholeInHand_39 : decode cX2_wholeInHand 39 = .ok (.if_icmp .ge 37, 3) := by decide +kernel
theorem dX2_wholeInHand_42 : decode cX2_wholeInHand 42 = .ok (.aload_n 0, 1) := by decide +kernel
theorem dX2_wholeInHand_43 : decode cX2_wholeInHand 43 = .ok (.getfield 12, 3) := by decide +kernel
theorem dX2_wholeInHand_46 : decode cX2_wholeInHand 46 = .ok (.iload_n 2, 1) := by decide +kernel
theorem dX2_wholeInHand_47 : decode cX2_wholeInHand 47 = .ok (.invokevirtual 112, 3) := by decide +kernel
theorem dX2_wholeInHand_50 : decode cX2_wholeInHand 50 = .ok (.istore_n 3, 1) := by decide +kernel
theorem dX2_wholeInHand_51 : decode cX2_wholeInHand 51 = .ok (.iload_n 3, 1) := by decide +kernel
theorem dX2_wholeInHand_52 : decode cX2_wholeInHand 52 = .ok (.invokestatic 202, 3) := by decide +kernel
theorem dX2_wholeInHand_55 : decode cX2_wholeInHand 55 = .ok (.ifCond .ne 5, 3) := by decide +kernel
theorem dX2_wholeInHand_58 : decode cX2_wholeInHand 58 = .ok (.iconst (-1), 1) := by decide +kernel
theorem dX2_wholeInHand_59 : decode cX2_wholeInHand 59 = .ok (.ireturn, 1) := by decide +kernel
theorem dX2_wholeInHand_60 : decode cX2_wholeInHand 60 = .ok (.iload_n 1, 1) := by decide +kernel
theorem dX2_wholeInHand_61 : decode cX2_wholeInHand 61 = .ok (.bipush 10, 2) := by decide +kernel
theorem dX2_wholeInHand_63 : decode cX2_wholeInHand 63 = .ok (.imul, 1) := by decide +kernel
theorem dX2_wholeInHand_64 : decode cX2_wholeInHand 64 = .ok (.iload_n 3, 1) := by decide +kernel
theorem dX2_wholeInHand_65 : decode cX2_wholeInHand 65 = .ok (.bipush 48, 2) := by decide +kernel
theorem dX2_wholeInHand_67 : decode cX2_wholeInHand 67 = .ok (.isub, 1) := by decide +kernel
theorem dX2_wholeInHand_68 : decode cX2_wholeInHand 68 = .ok (.iadd, 1) := by decide +kernel
theorem dX2_wholeInHand_69 : decode cX2_wholeInHand 69 = .ok (.istore_n 1, 1) := by decide +kernel
theorem dX2_wholeInHand_70 : decode cX2_wholeInHand 70 = .ok (.iinc 2 1, 3) := by decide +kernel
theorem dX2_wholeInHand_73 : decode cX2_wholeInHand 73 = .ok (.goto (-39), 3) := by decide +kernel
theorem dX2_wholeInHand_76 : decode cX2_wholeInHand 76 = .ok (.iload_n 1, 1) := by decide +kernel
theorem dX2_wholeInHand_77 : decode cX2_wholeInHand 77 = .ok (.ireturn, 1) := by decide +kernel
theorem dX2_clockNamed_0 : decode cX2_clockNamed 0 = .ok (.iconst 0, 1) := by decide +kernel
theorem dX2_clockNamed_1 : decode cX2_clockNamed 1 = .ok (.istore_n 3, 1) := by decide +kernel
theorem dX2_clockNamed_2 : decode cX2_clockNamed 2 = .ok (.iload_n 3, 1) := by decide +kernel
theorem dX2_clockNamed_3 : decode cX2_clockNamed 3 = .ok (.aload_n 0, 1) := by decide +kernel
theorem dX2_clockNamed_4 : decode cX2_clockNamed 4 = .ok (.getfield 34, 3) := by decide +kernel
theorem dX2_clockNamed_7 : decode cX2_clockNamed 7 = .ok (.getfield 119, 3) := by decide +kernel
theorem dX2_clockNamed_10 : decode cX2_clockNamed 10 = .ok (.getfield 123, 3) := by decide +kernel
theorem dX2_clockNamed_13 : decode cX2_clockNamed 13 = .ok (.if_icmp .ge 36, 3) := by decide +kernel
theorem dX2_clockNamed_16 : decode cX2_clockNamed 16 = .ok (.aload_n 0, 1) := by decide +kernel
theorem dX2_clockNamed_17 : decode cX2_clockNamed 17 = .ok (.getfield 22, 3) := by decide +kernel
theorem dX2_clockNamed_20 : decode cX2_clockNamed 20 = .ok (.iload_n 3, 1) := by decide +kernel
theorem dX2_clockNamed_21 : decode cX2_clockNamed 21 = .ok (.iaload, 1) := by decide +kernel
theorem dX2_clockNamed_22 : decode cX2_clockNamed 22 = .ok (.iload_n 2, 1) := by decide +kernel
theorem dX2_clockNamed_23 : decode cX2_clockNamed 23 = .ok (.if_icmp .ne 20, 3) := by decide +kernel
theorem dX2_clockNamed_26 : decode cX2_clockNamed 26 = .ok (.aload_n 0, 1) := by decide +kernel
theorem dX2_clockNamed_27 : decode cX2_clockNamed 27 = .ok (.aload_n 0, 1) := by decide +kernel
theorem dX2_clockNamed_28 : decode cX2_clockNamed 28 = .ok (.getfield 18, 3) := by decide +kernel
theorem dX2_clockNamed_31 : decode cX2_clockNamed 31 = .ok (.iload_n 3, 1) := by decide +kernel
theorem dX2_clockNamed_32 : decode cX2_clockNamed 32 = .ok (.iaload, 1) := by decide +kernel
theorem dX2_clockNamed_33 : decode cX2_clockNamed 33 = .ok (.iload_n 1, 1) := by decide +kernel
theorem dX2_clockNamed_34 : decode cX2_clockNamed 34 = .ok (.iload_n 2, 1) := by decide +kernel
theorem dX2_clockNamed_35 : decode cX2_clockNamed 35 = .ok (.invokevirtual 205, 3) := by decide +kernel
theorem dX2_clockNamed_38 : decode cX2_clockNamed 38 = .ok (.ifCond .eq 5, 3) := by decide +kernel
theorem dX2_clockNamed_41 : decode cX2_clockNamed 41 = .ok (.iload_n 3, 1) := by decide +kernel
theorem dX2_clockNamed_42 : decode cX2_clockNamed 42 = .ok (.ireturn, 1) := by decide +kernel
theorem dX2_clockNamed_43 : decode cX2_clockNamed 43 = .ok (.iinc 3 1, 3) := by decide +kernel
theorem dX2_clockNamed_46 : decode cX2_clockNamed 46 = .ok (.goto (-44), 3) := by decide +kernel
theorem dX2_clockNamed_49 : decode cX2_clockNamed 49 = .ok (.iconst (-1), 1) := by decide +kernel
theorem dX2_clockNamed_50 : decode cX2_clockNamed 50 = .ok (.ireturn, 1) := by decide +kernel
theorem dX2_isSameText_0 : decode cX2_isSameText 0 = .ok (.iconst 0, 1) := by decide +kernel
theorem dX2_isSameText_1 : decode cX2_isSameText 1 = .ok (.istore 4, 2) := by decide +kernel
theorem dX2_isSameText_3 : decode cX2_isSameText 3 = .ok (.iload 4, 2) := by decide +kernel
theorem dX2_isSameText_5 : decode cX2_isSameText 5 = .ok (.iload_n 3, 1) := by decide +kernel
theorem dX2_isSameText_6 : decode cX2_isSameText 6 = .ok (.if_icmp .ge 36, 3) := by decide +kernel
theorem dX2_isSameText_9 : decode cX2_isSameText 9 = .ok (.aload_n 0, 1) := by decide +kernel
theorem dX2_isSameText_10 : decode cX2_isSameText 10 = .ok (.getfield 12, 3) := by decide +kernel
theorem dX2_isSameText_13 : decode cX2_isSameText 13 = .ok (.iload_n 1, 1) := by decide +kernel
theorem dX2_isSameText_14 : decode cX2_isSameText 14 = .ok (.iload 4, 2) := by decide +kernel
theorem dX2_isSameText_16 : decode cX2_isSameText 16 = .ok (.iadd, 1) := by decide +kernel
theorem dX2_isSameText_17 : decode cX2_isSameText 17 = .ok (.invokevirtual 112, 3) := by decide +kernel
theorem dX2_isSameText_20 : decode cX2_isSameText 20 = .ok (.aload_n 0, 1) := by decide +kernel
theorem dX2_isSameText_21 : decode cX2_isSameText 21 = .ok (.getfield 12, 3) := by decide +kernel
theorem dX2_isSameText_24 : decode cX2_isSameText 24 = .ok (.iload_n 2, 1) := by decide +kernel
theorem dX2_isSameText_25 : decode cX2_isSameText 25 = .ok (.iload 4, 2) := by decide +kernel
theorem dX2_isSameText_27 : decode cX2_isSameText 27 = .ok (.iadd, 1) := by decide +kernel
theorem dX2_isSameText_28 : decode cX2_isSameText 28 = .ok (.invokevirtual 112, 3) := by decide +kernel
theorem dX2_isSameText_31 : decode cX2_isSameText 31 = .ok (.if_icmp .eq 5, 3) := by decide +kernel
theorem dX2_isSameText_34 : decode cX2_isSameText 34 = .ok (.iconst 0, 1) := by decide +kernel
theorem dX2_isSameText_35 : decode cX2_isSameText 35 = .ok (.ireturn, 1) := by decide +kernel
theorem dX2_isSameText_36 : decode cX2_isSameText 36 = .ok (.iinc 4 1, 3) := by decide +kernel
theorem dX2_isSameText_39 : decode cX2_isSameText 39 = .ok (.goto (-36), 3) := by decide +kernel
theorem dX2_isSameText_42 : decode cX2_isSameText 42 = .ok (.iconst 1, 1) := by decide +kernel
theorem dX2_isSameText_43 : decode cX2_isSameText 43 = .ok (.ireturn, 1) := by decide +kernel
theorem dX2_bindLinks_0 : decode cX2_bindLinks 0 = .ok (.iconst 0, 1) := by decide +kernel
theorem dX2_bindLinks_1 : decode cX2_bindLinks 1 = .ok (.istore_n 1, 1) := by decide +kernel
theorem dX2_bindLinks_2 : decode cX2_bindLinks 2 = .ok (.iload_n 1, 1) := by decide +kernel
theorem dX2_bindLinks_3 : decode cX2_bindLinks 3 = .ok (.aload_n 0, 1) := by decide +kernel
theorem dX2_bindLinks_4 : decode cX2_bindLinks 4 = .ok (.getfield 34, 3) := by decide +kernel
theorem dX2_bindLinks_7 : decode cX2_bindLinks 7 = .ok (.getfield 135, 3) := by decide +kernel
theorem dX2_bindLinks_10 : decode cX2_bindLinks 10 = .ok (.iconst 2, 1) := by decide +kernel
theorem dX2_bindLinks_11 : decode cX2_bindLinks 11 = .ok (.imul, 1) := by decide +kernel
theorem dX2_bindLinks_12 : decode cX2_bindLinks 12 = .ok (.if_icmp .ge 62, 3) := by decide +kernel
theorem dX2_bindLinks_15 : decode cX2_bindLinks 15 = .ok (.aload_n 0, 1) := by decide +kernel
theorem dX2_bindLinks_16 : decode cX2_bindLinks 16 = .ok (.getfield 28, 3) := by decide +kernel
theorem dX2_bindLinks_19 : decode cX2_bindLinks 19 = .ok (.iload_n 1, 1) := by decide +kernel
theorem dX2_bindLinks_20 : decode cX2_bindLinks 20 = .ok (.iaload, 1) := by decide +kernel
theorem dX2_bindLinks_21 : decode cX2_bindLinks 21 = .ok (.ifCond .le 47, 3) := by decide +kernel
theorem dX2_bindLinks_24 : decode cX2_bindLinks 24 = .ok (.aload_n 0, 1) := by decide +kernel
theorem dX2_bindLinks_25 : decode cX2_bindLinks 25 = .ok (.aload_n 0, 1) := by decide +kernel
theorem dX2_bindLinks_26 : decode cX2_bindLinks 26 = .ok (.getfield 25, 3) := by decide +kernel
theorem dX2_bindLinks_29 : decode cX2_bindLinks 29 = .ok (.iload_n 1, 1) := by decide +kernel
theorem dX2_bindLinks_30 : decode cX2_bindLinks 30 = .ok (.iaload, 1) := by decide +kernel
theorem dX2_bindLinks_31 : decode cX2_bindLinks 31 = .ok (.aload_n 0, 1) := by decide +kernel
theorem dX2_bindLinks_32 : decode cX2_bindLinks 32 = .ok (.getfield 28, 3) := by decide +kernel
theorem dX2_bindLinks_35 : decode cX2_bindLinks 35 = .ok (.iload_n 1, 1) := by decide +kernel
theorem dX2_bindLinks_36 : decode cX2_bindLinks 36 = .ok (.iaload, 1) := by decide +kernel
theorem dX2_bindLinks_37 : decode cX2_bindLinks 37 = .ok (.invokevirtual 131, 3) := by decide +kernel
theorem dX2_bindLinks_40 : decode cX2_bindLinks 40 = .ok (.istore_n 2, 1) := by decide +kernel
theorem dX2_bindLinks_41 : decode cX2_bindLinks 41 = .ok (.iload_n 2, 1) := by decide +kernel
theorem dX2_bindLinks_42 : decode cX2_bindLinks 42 = .ok (.iconst (-1), 1) := by decide +kernel
theorem dX2_bindLinks_43 : decode cX2_bindLinks 43 = .ok (.if_icmp .ne 15, 3) := by decide +kernel
theorem dX2_bindLinks_46 : decode cX2_bindLinks 46 = .ok (.aload_n 0, 1) := by decide +kernel
theorem dX2_bindLinks_47 : decode cX2_bindLinks 47 = .ok (.aload_n 0, 1) := by decide +kernel
theorem dX2_bindLinks_48 : decode cX2_bindLinks 48 = .ok (.getfield 25, 3) := by decide +kernel
theorem dX2_bindLinks_51 : decode cX2_bindLinks 51 = .ok (.iload_n 1, 1) := by decide +kernel
theorem dX2_bindLinks_52 : decode cX2_bindLinks 52 = .ok (.iaload, 1) := by decide +kernel
theorem dX2_bindLinks_53 : decode cX2_bindLinks 53 = .ok (.putfield 38, 3) := by decide +kernel
theorem dX2_bindLinks_56 : decode cX2_bindLinks 56 = .ok (.iconst 0, 1) := by decide +kernel
theorem dX2_bindLinks_57 : decode cX2_bindLinks 57 = .ok (.ireturn, 1) := by decide +kernel
theorem dX2_bindLinks_58 : decode cX2_bindLinks 58 = .ok (.aload_n 0, 1) := by decide +kernel
theorem dX2_bindLinks_59 : decode cX2_bindLinks 59 = .ok (.getfield 34, 3) := by decide +kernel
theorem dX2_bindLinks_62 : decode cX2_bindLinks 62 = .ok (.getfield 209, 3) := by decide +kernel
theorem dX2_bindLinks_65 : decode cX2_bindLinks 65 = .ok (.iload_n 1, 1) := by decide +kernel
theorem dX2_bindLinks_66 : decode cX2_bindLinks 66 = .ok (.iload_n 2, 1) := by decide +kernel
theorem dX2_bindLinks_67 : decode cX2_bindLinks 67 = .ok (.iastore, 1) := by decide +kernel
theorem dX2_bindLinks_68 : decode cX2_bindLinks 68 = .ok (.iinc 1 1, 3) := by decide +kernel
theorem dX2_bindLinks_71 : decode cX2_bindLinks 71 = .ok (.goto (-69), 3) := by decide +kernel
theorem dX2_bindLinks_74 : decode cX2_bindLinks 74 = .ok (.iconst 0, 1) := by decide +kernel
theorem dX2_bindLinks_75 : decode cX2_bindLinks 75 = .ok (.istore_n 1, 1) := by decide +kernel
theorem dX2_bindLinks_76 : decode cX2_bindLinks 76 = .ok (.iload_n 1, 1) := by decide +kernel
theorem dX2_bindLinks_77 : decode cX2_bindLinks 77 = .ok (.aload_n 0, 1) := by decide +kernel
theorem dX2_bindLinks_78 : decode cX2_bindLinks 78 = .ok (.getfield 34, 3) := by decide +kernel
theorem dX2_bindLinks_81 : decode cX2_bindLinks 81 = .ok (.getfield 119, 3) := by decide +kernel
theorem dX2_bindLinks_84 : decode cX2_bindLinks 84 = .ok (.getfield 123, 3) := by decide +kernel
theorem dX2_bindLinks_87 : decode cX2_bindLinks 87 = .ok (.if_icmp .ge 41, 3) := by decide +kernel
theorem dX2_bindLinks_90 : decode cX2_bindLinks 90 = .ok (.aload_n 0, 1) := by decide +kernel
theorem dX2_bindLinks_91 : decode cX2_bindLinks 91 = .ok (.getfield 34, 3) := by decide +kernel
theorem dX2_bindLinks_94 : decode cX2_bindLinks 94 = .ok (.getfield 119, 3) := by decide +kernel
theorem dX2_bindLinks_97 : decode cX2_bindLinks 97 = .ok (.getfield 212, 3) := by decide +kernel
theorem dX2_bindLinks_100 : decode cX2_bindLinks 100 = .ok (.iload_n 1, 1) := by decide +kernel
theorem dX2_bindLinks_101 : decode cX2_bindLinks 101 = .ok (.aload_n 0, 1) := by decide +kernel
theorem dX2_bindLinks_102 : decode cX2_bindLinks 102 = .ok (.getfield 34, 3) := by decide +kernel
theorem dX2_bindLinks_105 : decode cX2_bindLinks 105 = .ok (.aload_n 0, 1) := by decide +kernel
theorem dX2_bindLinks_106 : decode cX2_bindLinks 106 = .ok (.getfield 34, 3) := by decide +kernel
theorem dX2_bindLinks_109 : decode cX2_bindLinks 109 = .ok (.getfield 119, 3) := by decide +kernel
theorem dX2_bindLinks_112 : decode cX2_bindLinks 112 = .ok (.getfield 215, 3) := by decide +kernel
theorem dX2_bindLinks_115 : decode cX2_bindLinks 115 = .ok (.iload_n 1, 1) := by decide +kernel
theorem dX2_bindLinks_116 : decode cX2_bindLinks 116 = .ok (.iaload, 1) := by decide +kernel
theorem dX2_bindLinks_117 : decode cX2_bindLinks 117 = .ok (.iconst 0, 1) := by decide +kernel
theorem dX2_bindLinks_118 : decode cX2_bindLinks 118 = .ok (.invokevirtual 218, 3) := by decide +kernel
theorem dX2_bindLinks_121 : decode cX2_bindLinks 121 = .ok (.iastore, 1) := by decide +kernel
theorem dX2_bindLinks_122 : decode cX2_bindLinks 122 = .ok (.iinc 1 1, 3) := by decide +kernel
theorem dX2_bindLinks_125 : decode cX2_bindLinks 125 = .ok (.goto (-49), 3) := by decide +kernel
theorem dX2_bindLinks_128 : decode cX2_bindLinks 128 = .ok (.iconst 1, 1) := by decide +kernel
theorem dX2_bindLinks_129 : decode cX2_bindLinks 129 = .ok (.ireturn, 1) := by decide +kernel
theorem dX2_hasNoRing_0 : decode cX2_hasNoRing 0 = .ok (.iconst 0, 1) := by decide +kernel
theorem dX2_hasNoRing_1 : decode cX2_hasNoRing 1 = .ok (.istore_n 1, 1) := by decide +kernel
theorem dX2_hasNoRing_2 : decode cX2_hasNoRing 2 = .ok (.iload_n 1, 1) := by decide +kernel
theorem dX2_hasNoRing_3 : decode cX2_hasNoRing 3 = .ok (.aload_n 0, 1) := by decide +kernel
theorem dX2_hasNoRing_4 : decode cX2_hasNoRing 4 = .ok (.getfield 34, 3) := by decide +kernel
theorem dX2_hasNoRing_7 : decode cX2_hasNoRing 7 = .ok (.getfield 119, 3) := by decide +kernel
theorem dX2_hasNoRing_10 : decode cX2_hasNoRing 10 = .ok (.getfield 123, 3) := by decide +kernel
theorem dX2_hasNoRing_13 : decode cX2_hasNoRing 13 = .ok (.if_icmp .ge 35, 3) := by decide +kernel
theorem dX2_hasNoRing_16 : decode cX2_hasNoRing 16 = .ok (.aload_n 0, 1) := by decide +kernel
theorem dX2_hasNoRing_17 : decode cX2_hasNoRing 17 = .ok (.getfield 34, 3) := by decide +kernel
theorem dX2_hasNoRing_20 : decode cX2_hasNoRing 20 = .ok (.getfield 119, 3) := by decide +kernel
theorem dX2_hasNoRing_23 : decode cX2_hasNoRing 23 = .ok (.iload_n 1, 1) := by decide +kernel
theorem dX2_hasNoRing_24 : decode cX2_hasNoRing 24 = .ok (.invokevirtual 221, 3) := by decide +kernel
theorem dX2_hasNoRing_27 : decode cX2_hasNoRing 27 = .ok (.ifCond .eq 15, 3) := by decide +kernel
theorem dX2_hasNoRing_30 : decode cX2_hasNoRing 30 = .ok (.aload_n 0, 1) := by decide +kernel
theorem dX2_hasNoRing_31 : decode cX2_hasNoRing 31 = .ok (.aload_n 0, 1) := by decide +kernel
theorem dX2_hasNoRing_32 : decode cX2_hasNoRing 32 = .ok (.getfield 18, 3) := by decide +kernel
theorem dX2_hasNoRing_35 : decode cX2_hasNoRing 35 = .ok (.iload_n 1, 1) := by decide +kernel
theorem dX2_hasNoRing_36 : decode cX2_hasNoRing 36 = .ok (.iaload, 1) := by decide +kernel
theorem dX2_hasNoRing_37 : decode cX2_hasNoRing 37 = .ok (.putfield 38, 3) := by decide +kernel
theorem dX2_hasNoRing_40 : decode cX2_hasNoRing 40 = .ok (.iconst 0, 1) := by decide +kernel
theorem dX2_hasNoRing_41 : decode cX2_hasNoRing 41 = .ok (.ireturn, 1) := by decide +kernel
theorem dX2_hasNoRing_42 : decode cX2_hasNoRing 42 = .ok (.iinc 1 1, 3) := by decide +kernel
theorem dX2_hasNoRing_45 : decode cX2_hasNoRing 45 = .ok (.goto (-43), 3) := by decide +kernel
theorem dX2_hasNoRing_48 : decode cX2_hasNoRing 48 = .ok (.iconst 1, 1) := by decide +kernel
theorem dX2_hasNoRing_49 : decode cX2_hasNoRing 49 = .ok (.ireturn, 1) := by decide +kernel
theorem dX2_hasNoneGreat_0 : decode cX2_hasNoneGreat 0 = .ok (.aload_n 0, 1) := by decide +kernel
theorem dX2_hasNoneGreat_1 : decode cX2_hasNoneGreat 1 = .ok (.getfield 34, 3) := by decide +kernel
theorem dX2_hasNoneGreat_4 : decode cX2_hasNoneGreat 4 = .ok (.getfield 119, 3) := by decide +kernel
theorem dX2_hasNoneGreat_7 : decode cX2_hasNoneGreat 7 = .ok (.invokevirtual 224, 3) := by decide +kernel
theorem dX2_hasNoneGreat_10 : decode cX2_hasNoneGreat 10 = .ok (.iconst 0, 1) := by decide +kernel
theorem dX2_hasNoneGreat_11 : decode cX2_hasNoneGreat 11 = .ok (.istore_n 1, 1) := by decide +kernel
theorem dX2_hasNoneGreat_12 : decode cX2_hasNoneGreat 12 = .ok (.iload_n 1, 1) := by decide +kernel
theorem dX2_hasNoneGreat_13 : decode cX2_hasNoneGreat 13 = .ok (.aload_n 0, 1) := by decide +kernel
theorem dX2_hasNoneGreat_14 : decode cX2_hasNoneGreat 14 = .ok (.getfield 34, 3) := by decide +kernel
theorem dX2_hasNoneGreat_17 : decode cX2_hasNoneGreat 17 = .ok (.getfield 119, 3) := by decide +kernel
theorem dX2_hasNoneGreat_20 : decode cX2_hasNoneGreat 20 = .ok (.getfield 123, 3) := by decide +kernel
theorem dX2_hasNoneGreat_23 : decode cX2_hasNoneGreat 23 = .ok (.if_icmp .ge 36, 3) := by decide +kernel
theorem dX2_hasNoneGreat_26 : decode cX2_hasNoneGreat 26 = .ok (.aload_n 0, 1) := by decide +kernel
theorem dX2_hasNoneGreat_27 : decode cX2_hasNoneGreat 27 = .ok (.getfield 34, 3) := by decide +kernel
theorem dX2_hasNoneGreat_30 : decode cX2_hasNoneGreat 30 = .ok (.getfield 119, 3) := by decide +kernel
theorem dX2_hasNoneGreat_33 : decode cX2_hasNoneGreat 33 = .ok (.getfield 227, 3) := by decide +kernel
theorem dX2_hasNoneGreat_36 : decode cX2_hasNoneGreat 36 = .ok (.iload_n 1, 1) := by decide +kernel
theorem dX2_hasNoneGreat_37 : decode cX2_hasNoneGreat 37 = .ok (.baload, 1) := by decide +kernel
theorem dX2_hasNoneGreat_38 : decode cX2_hasNoneGreat 38 = .ok (.ifCond .eq 15, 3) := by decide +kernel
theorem dX2_hasNoneGreat_41 : decode cX2_hasNoneGreat 41 = .ok (.aload_n 0, 1) := by decide +kernel
theorem dX2_hasNoneGreat_42 : decode cX2_hasNoneGreat 42 = .ok (.aload_n 0, 1) := by decide +kernel
theorem dX2_hasNoneGreat_43 : decode cX2_hasNoneGreat 43 = .ok (.getfield 18, 3) := by decide +kernel
theorem dX2_hasNoneGreat_46 : decode cX2_hasNoneGreat 46 = .ok (.iload_n 1, 1) := by decide +kernel
theorem dX2_hasNoneGreat_47 : decode cX2_hasNoneGreat 47 = .ok (.iaload, 1) := by decide +kernel
theorem dX2_hasNoneGreat_48 : decode cX2_hasNoneGreat 48 = .ok (.putfield 38, 3) := by decide +kernel
theorem dX2_hasNoneGreat_51 : decode cX2_hasNoneGreat 51 = .ok (.iconst 0, 1) := by decide +kernel
theorem dX2_hasNoneGreat_52 : decode cX2_hasNoneGreat 52 = .ok (.ireturn, 1) := by decide +kernel
theorem dX2_hasNoneGreat_53 : decode cX2_hasNoneGreat 53 = .ok (.iinc 1 1, 3) := by decide +kernel
theorem dX2_hasNoneGreat_56 : decode cX2_hasNoneGreat 56 = .ok (.goto (-44), 3) := by decide +kernel
theorem dX2_hasNoneGreat_59 : decode cX2_hasNoneGreat 59 = .ok (.iconst 1, 1) := by decide +kernel
theorem dX2_hasNoneGreat_60 : decode cX2_hasNoneGreat 60 = .ok (.ireturn, 1) := by decide +kernel
theorem dX3_init_0 : decode cX3_init 0 = .ok (.aload_n 0, 1) := by decide +kernel
theorem dX3_init_1 : decode cX3_init 1 = .ok (.invokespecial 3, 3) := by decide +kernel
theorem dX3_init_4 : decode cX3_init 4 = .ok (.aload_n 0, 1) := by decide +kernel
theorem dX3_init_5 : decode cX3_init 5 = .ok (.bipush 40, 2) := by decide +kernel
theorem dX3_init_7 : decode cX3_init 7 = .ok (.newarray .int, 2) := by decide +kernel
theorem dX3_init_9 : decode cX3_init 9 = .ok (.putfield 9, 3) := by decide +kernel
theorem dX3_init_12 : decode cX3_init 12 = .ok (.aload_n 0, 1) := by decide +kernel
theorem dX3_init_13 : decode cX3_init 13 = .ok (.bipush 40, 2) := by decide +kernel
theorem dX3_init_15 : decode cX3_init 15 = .ok (.newarray .int, 2) := by decide +kernel
theorem dX3_init_17 : decode cX3_init 17 = .ok (.putfield 15, 3) := by decide +kernel
theorem dX3_init_20 : decode cX3_init 20 = .ok (.aload_n 0, 1) := by decide +kernel
theorem dX3_init_21 : decode cX3_init 21 = .ok (.bipush 80, 2) := by decide +kernel
theorem dX3_init_23 : decode cX3_init 23 = .ok (.newarray .int, 2) := by decide +kernel
theorem dX3_init_25 : decode cX3_init 25 = .ok (.putfield 18, 3) := by decide +kernel
theorem dX3_init_28 : decode cX3_init 28 = .ok (.aload_n 0, 1) := by decide +kernel
theorem dX3_init_29 : decode cX3_init 29 = .ok (.bipush 120, 2) := by decide +kernel
theorem dX3_init_31 : decode cX3_init 31 = .ok (.newarray .int, 2) := by decide +kernel
theorem dX3_init_33 : decode cX3_init 33 = .ok (.putfield 21, 3) := by decide +kernel
theorem dX3_init_36 : decode cX3_init 36 = .ok (.aload_n 0, 1) := by decide +kernel
theorem dX3_init_37 : decode cX3_init 37 = .ok (.bipush 120, 2) := by decide +kernel
theorem dX3_init_39 : decode cX3_init 39 = .ok (.newarray .int, 2) := by decide +kernel
theorem dX3_init_41 : decode cX3_init 41 = .ok (.putfield 24, 3) := by decide +kernel
theorem dX3_init_44 : decode cX3_init 44 = .ok (.aload_n 0, 1) := by decide +kernel
theorem dX3_init_45 : decode cX3_init 45 = .ok (.bipush 120, 2) := by decide +kernel
theorem dX3_init_47 : decode cX3_init 47 = .ok (.newarray .long, 2) := by decide +kernel
theorem dX3_init_49 : decode cX3_init 49 = .ok (.putfield 27, 3) := by decide +kernel
theorem dX3_init_52 : decode cX3_init 52 = .ok (.aload_n 0, 1) := by decide +kernel
theorem dX3_init_53 : decode cX3_init 53 = .ok (.sipush 1240, 3) := by decide +kernel
theorem dX3_init_56 : decode cX3_init 56 = .ok (.newarray .char, 2) := by decide +kernel
theorem dX3_init_58 : decode cX3_init 58 = .ok (.putfield 31, 3) := by decide +kernel
theorem dX3_init_61 : decode cX3_init 61 = .ok (.aload_n 0, 1) := by decide +kernel
theorem dX3_init_62 : decode cX3_init 62 = .ok (.new 35, 3) := by decide +kernel
theorem dX3_init_65 : decode cX3_init 65 = .ok (.dup, 1) := by decide +kernel
theorem dX3_init_66 : decode cX3_init 66 = .ok (.invokespecial 37, 3) := by decide +kernel
theorem dX3_init_69 : decode cX3_init 69 = .ok (.putfield 38, 3) := by decide +kernel
theorem dX3_init_72 : decode cX3_init 72 = .ok (.aload_n 0, 1) := by decide +kernel
theorem dX3_init_73 : decode cX3_init 73 = .ok (.iconst 0, 1) := by decide +kernel
theorem dX3_init_74 : decode cX3_init 74 = .ok (.putfield 42, 3) := by decide +kernel
theorem dX3_init_77 : decode cX3_init 77 = .ok (.aload_n 0, 1) := by decide +kernel
theorem dX3_init_78 : decode cX3_init 78 = .ok (.iconst 0, 1) := by decide +kernel
theorem dX3_init_79 : decode cX3_init 79 = .ok (.putfield 46, 3) := by decide +kernel
theorem dX3_init_82 : decode cX3_init 82 = .ok (.return_, 1) := by decide +kernel
theorem dX3_wipe_0 : decode cX3_wipe 0 = .ok (.aload_n 0, 1) := by decide +kernel
theorem dX3_wipe_1 : decode cX3_wipe 1 = .ok (.iconst 0, 1) := by decide +kernel
theorem dX3_wipe_2 : decode cX3_wipe 2 = .ok (.putfield 42, 3) := by decide +kernel
theorem dX3_wipe_5 : decode cX3_wipe 5 = .ok (.aload_n 0, 1) := by decide +kernel
theorem dX3_wipe_6 : decode cX3_wipe 6 = .ok (.iconst 0, 1) := by decide +kernel
theorem dX3_wipe_7 : decode cX3_wipe 7 = .ok (.putfield 46, 3) := by decide +kernel
theorem dX3_wipe_10 : decode cX3_wipe 10 = .ok (.aload_n 0, 1) := by decide +kernel
theorem dX3_wipe_11 : decode cX3_wipe 11 = .ok (.getfield 38, 3) := by decide +kernel
theorem dX3_wipe_14 : decode cX3_wipe 14 = .ok (.invokevirtual 49, 3) := by decide +kernel
theorem dX3_wipe_17 : decode cX3_wipe 17 = .ok (.return_, 1) := by decide +kernel
theorem dX3_open_0 : decode cX3_open 0 = .ok (.aload_n 0, 1) := by decide +kernel
theorem dX3_open_1 : decode cX3_open 1 = .ok (.getfield 42, 3) := by decide +kernel
theorem dX3_open_4 : decode cX3_open 4 = .ok (.bipush 40, 2) := by decide +kernel
theorem dX3_open_6 : decode cX3_open 6 = .ok (.if_icmp .ge 101, 3) := by decide +kernel
theorem dX3_open_9 : decode cX3_open 9 = .ok (.aload_n 0, 1) := by decide +kernel
theorem dX3_open_10 : decode cX3_open 10 = .ok (.getfield 9, 3) := by decide +kernel
theorem dX3_open_13 : decode cX3_open 13 = .ok (.aload_n 0, 1) := by decide +kernel
theorem dX3_open_14 : decode cX3_open 14 = .ok (.getfield 42, 3) := by decide +kernel
theorem dX3_open_17 : decode cX3_open 17 = .ok (.iload_n 1, 1) := by decide +kernel
theorem dX3_open_18 : decode cX3_open 18 = .ok (.iastore, 1) := by decide +kernel
theorem dX3_open_19 : decode cX3_open 19 = .ok (.aload_n 0, 1) := by decide +kernel
theorem dX3_open_20 : decode cX3_open 20 = .ok (.getfield 15, 3) := by decide +kernel
theorem dX3_open_23 : decode cX3_open 23 = .ok (.aload_n 0, 1) := by decide +kernel
theorem dX3_open_24 : decode cX3_open 24 = .ok (.getfield 42, 3) := by decide +kernel
theorem dX3_open_27 : decode cX3_open 27 = .ok (.iconst 0, 1) := by decide +kernel
theorem dX3_open_28 : decode cX3_open 28 = .ok (.iastore, 1) := by decide +kernel
theorem dX3_open_29 : decode cX3_open 29 = .ok (.iconst 0, 1) := by decide +kernel
theorem dX3_open_30 : decode cX3_open 30 = .ok (.istore_n 2, 1) := by decide +kernel
theorem dX3_open_31 : decode cX3_open 31 = .ok (.iload_n 2, 1) := by decide +kernel
theorem dX3_open_32 : decode cX3_open 32 = .ok (.iconst 2, 1) := by decide +kernel
theorem dX3_open_33 : decode cX3_open 33 = .ok (.if_icmp .ge 23, 3) := by decide +kernel
theorem dX3_open_36 : decode cX3_open 36 = .ok (.aload_n 0, 1) := by decide +kernel
theorem dX3_open_37 : decode cX3_open 37 = .ok (.getfield 18, 3) := by decide +kernel
theorem dX3_open_40 : decode cX3_open 40 = .ok (.aload_n 0, 1) := by decide +kernel
theorem dX3_open_41 : decode cX3_open 41 = .ok (.getfield 42, 3) := by decide +kernel
theorem dX3_open_44 : decode cX3_open 44 = .ok (.iconst 2, 1) := by decide +kernel
theorem dX3_open_45 : decode cX3_open 45 = .ok (.imul, 1) := by decide +kernel
theorem dX3_open_46 : decode cX3_open 46 = .ok (.iload_n 2, 1) := by decide +kernel
theorem dX3_open_47 : decode cX3_open 47 = .ok (.iadd, 1) := by decide +kernel
theorem dX3_open_48 : decode cX3_open 48 = .ok (.iconst (-1), 1) := by decide +kernel
theorem dX3_open_49 : decode cX3_open 49 = .ok (.iastore, 1) := by decide +kernel
theorem dX3_open_50 : decode cX3_open 50 = .ok (.iinc 2 1, 3) := by decide +kernel
theorem dX3_open_53 : decode cX3_open 53 = .ok (.goto (-22), 3) := by decide +kernel
theorem dX3_open_56 : decode cX3_open 56 = .ok (.iconst 0, 1) := by decide +kernel
theorem dX3_open_57 : decode cX3_open 57 = .ok (.istore_n 2, 1) := by decide +kernel
theorem dX3_open_58 : decode cX3_open 58 = .ok (.iload_n 2, 1) := by decide +kernel
theorem dX3_open_59 : decode cX3_open 59 = .ok (.iconst 3, 1) := by decide +kernel
theorem dX3_open_60 : decode cX3_open 60 = .ok (.if_icmp .ge 37, 3) := by decide +kernel
theorem dX3_open_63 : decode cX3_open 63 = .ok (.aload_n 0, 1) := by decide +kernel
theorem dX3_open_64 : decode cX3_open 64 = .ok (.getfield 24, 3) := by decide +kernel
theorem dX3_open_67 : decode cX3_open 67 = .ok (.aload_n 0, 1) := by decide +kernel
theorem dX3_open_68 : decode cX3_open 68 = .ok (.getfield 42, 3) := by decide +kernel
theorem dX3_open_71 : decode cX3_open 71 = .ok (.iconst 3, 1) := by decide +kernel
theorem dX3_open_72 : decode cX3_open 72 = .ok (.imul, 1) := by decide +kernel
theorem dX3_open_73 : decode cX3_open 73 = .ok (.iload_n 2, 1) := by decide +kernel
theorem dX3_open_74 : decode cX3_open 74 = .ok (.iadd, 1) := by decide +kernel
theorem dX3_open_75 : decode cX3_open 75 = .ok (.iconst 0, 1) := by decide +kernel
theorem dX3_open_76 : decode cX3_open 76 = .ok (.iastore, 1) := by decide +kernel
theorem dX3_open_77 : decode cX3_open 77 = .ok (.aload_n 0, 1) := by decide +kernel
theorem dX3_open_78 : decode cX3_open 78 = .ok (.getfield 27, 3) := by decide +kernel
theorem dX3_open_81 : decode cX3_open 81 = .ok (.aload_n 0, 1) := by decide +kernel
theorem dX3_open_82 : decode cX3_open 82 = .ok (.getfield 42, 3) := by decide +kernel
theorem dX3_open_85 : decode cX3_open 85 = .ok (.iconst 3, 1) := by decide +kernel
theorem dX3_open_86 : decode cX3_open 86 = .ok (.imul, 1) := by decide +kernel
theorem dX3_open_87 : decode cX3_open 87 = .ok (.iload_n 2, 1) := by decide +kernel
theorem dX3_open_88 : decode cX3_open 88 = .ok (.iadd, 1) := by decide +kernel
theorem dX3_open_89 : decode cX3_open 89 = .ok (.lconst 0, 1) := by decide +kernel
theorem dX3_open_90 : decode cX3_open 90 = .ok (.lastore, 1) := by decide +kernel
theorem dX3_open_91 : decode cX3_open 91 = .ok (.iinc 2 1, 3) := by decide +kernel
theorem dX3_open_94 : decode cX3_open 94 = .ok (.goto (-36), 3) := by decide +kernel
theorem dX3_open_97 : decode cX3_open 97 = .ok (.aload_n 0, 1) := by decide +kernel
theorem dX3_open_98 : decode cX3_open 98 = .ok (.dup, 1) := by decide +kernel
theorem dX3_open_99 : decode cX3_open 99 = .ok (.getfield 42, 3) := by decide +kernel
theorem dX3_open_102 : decode cX3_open 102 = .ok (.iconst 1, 1) := by decide +kernel
theorem dX3_open_103 : decode cX3_open 103 = .ok (.iadd, 1) := by decide +kernel
theorem dX3_open_104 : decode cX3_open 104 = .ok (.putfield 42, 3) := by decide +kernel
theorem dX3_open_107 : decode cX3_open 107 = .ok (.return_, 1) := by decide +kernel
theorem dX3_setValue_0 : decode cX3_setValue 0 = .ok (.aload_n 0, 1) := by decide +kernel
theorem dX3_setValue_1 : decode cX3_setValue 1 = .ok (.getfield 42, 3) := by decide +kernel
theorem dX3_setValue_4 : decode cX3_setValue 4 = .ok (.ifCond .le 15, 3) := by decide +kernel
theorem dX3_setValue_7 : decode cX3_setValue 7 = .ok (.aload_n 0, 1) := by decide +kernel
theorem dX3_setValue_8 : decode cX3_setValue 8 = .ok (.getfield 15, 3) := by decide +kernel
theorem dX3_setValue_11 : decode cX3_setValue 11 = .ok (.aload_n 0, 1) := by decide +kernel
theorem dX3_setValue_12 : decode cX3_setValue 12 = .ok (.getfield 42, 3) := by decide +kernel
theorem dX3_setValue_15 : decode cX3_setValue 15 = .ok (.iconst 1, 1) := by decide +kernel
theorem dX3_setValue_16 : decode cX3_setValue 16 = .ok (.isub, 1) := by decide +kernel
theorem dX3_setValue_17 : decode cX3_setValue 17 = .ok (.iload_n 1, 1) := by decide +kernel
theorem dX3_setValue_18 : decode cX3_setValue 18 = .ok (.iastore, 1) := by decide +kernel
theorem dX3_setValue_19 : decode cX3_setValue 19 = .ok (.return_, 1) := by decide +kernel
theorem dX3_setPattern_0 : decode cX3_setPattern 0 = .ok (.aload_n 0, 1) := by decide +kernel
theorem dX3_setPattern_1 : decode cX3_setPattern 1 = .ok (.aload_n 0, 1) := by decide +kernel
theorem dX3_setPattern_2 : decode cX3_setPattern 2 = .ok (.getfield 42, 3) := by decide +kernel
theorem dX3_setPattern_5 : decode cX3_setPattern 5 = .ok (.iload_n 1, 1) := by decide +kernel
theorem dX3_setPattern_6 : decode cX3_setPattern 6 = .ok (.invokevirtual 52, 3) := by decide +kernel
theorem dX3_setPattern_9 : decode cX3_setPattern 9 = .ok (.istore_n 3, 1) := by decide +kernel
theorem dX3_setPattern_10 : decode cX3_setPattern 10 = .ok (.iload_n 3, 1) := by decide +kernel
theorem dX3_setPattern_11 : decode cX3_setPattern 11 = .ok (.iconst (-1), 1) := by decide +kernel
theorem dX3_setPattern_12 : decode cX3_setPattern 12 = .ok (.if_icmp .eq 22, 3) := by decide +kernel
theorem dX3_setPattern_15 : decode cX3_setPattern 15 = .ok (.aload_n 0, 1) := by decide +kernel
theorem dX3_setPattern_16 : decode cX3_setPattern 16 = .ok (.getfield 21, 3) := by decide +kernel
theorem dX3_setPattern_19 : decode cX3_setPattern 19 = .ok (.iload_n 3, 1) := by decide +kernel
theorem dX3_setPattern_20 : decode cX3_setPattern 20 = .ok (.aload_n 0, 1) := by decide +kernel
theorem dX3_setPattern_21 : decode cX3_setPattern 21 = .ok (.getfield 46, 3) := by decide +kernel
theorem dX3_setPattern_24 : decode cX3_setPattern 24 = .ok (.iload_n 2, 1) := by decide +kernel
theorem dX3_setPattern_25 : decode cX3_setPattern 25 = .ok (.isub, 1) := by decide +kernel
theorem dX3_setPattern_26 : decode cX3_setPattern 26 = .ok (.iastore, 1) := by decide +kernel
theorem dX3_setPattern_27 : decode cX3_setPattern 27 = .ok (.aload_n 0, 1) := by decide +kernel
theorem dX3_setPattern_28 : decode cX3_setPattern 28 = .ok (.getfield 24, 3) := by decide +kernel
theorem dX3_setPattern_31 : decode cX3_setPattern 31 = .ok (.iload_n 3, 1) := by decide +kernel
theorem dX3_setPattern_32 : decode cX3_setPattern 32 = .ok (.iload_n 2, 1) := by decide +kernel
theorem dX3_setPattern_33 : decode cX3_setPattern 33 = .ok (.iastore, 1) := by decide +kernel
theorem dX3_setPattern_34 : decode cX3_setPattern 34 = .ok (.return_, 1) := by decide +kernel
theorem dX3_patternOf_0 : decode cX3_patternOf 0 = .ok (.iload_n 1, 1) := by decide +kernel
theorem dX3_patternOf_1 : decode cX3_patternOf 1 = .ok (.iconst 1, 1) := by decide +kernel
theorem dX3_patternOf_2 : decode cX3_patternOf 2 = .ok (.if_icmp .lt 24, 3) := by decide +kernel
theorem dX3_patternOf_5 : decode cX3_patternOf 5 = .ok (.iload_n 1, 1) := by decide +kernel
theorem dX3_patternOf_6 : decode cX3_patternOf 6 = .ok (.aload_n 0, 1) := by decide +kernel
theorem dX3_patternOf_7 : decode cX3_patternOf 7 = .ok (.getfield 42, 3) := by decide +kernel
theorem dX3_patternOf_10 : decode cX3_patternOf 10 = .ok (.if_icmp .gt 16, 3) := by decide +kernel
theorem dX3_patternOf_13 : decode cX3_patternOf 13 = .ok (.iload_n 2, 1) := by decide +kernel
theorem dX3_patternOf_14 : decode cX3_patternOf 14 = .ok (.ifCond .lt 12, 3) := by decide +kernel
theorem dX3_patternOf_17 : decode cX3_patternOf 17 = .ok (.iload_n 2, 1) := by decide +kernel
theorem dX3_patternOf_18 : decode cX3_patternOf 18 = .ok (.iconst 3, 1) := by decide +kernel
theorem dX3_patternOf_19 : decode cX3_patternOf 19 = .ok (.if_icmp .ge 7, 3) := by decide +kernel
theorem dX3_patternOf_22 : decode cX3_patternOf 22 = .ok (.iconst 1, 1) := by decide +kernel
theorem dX3_patternOf_23 : decode cX3_patternOf 23 = .ok (.goto 4, 3) := by decide +kernel
theorem dX3_patternOf_26 : decode cX3_patternOf 26 = .ok (.iconst 0, 1) := by decide +kernel
theorem dX3_patternOf_27 : decode cX3_patternOf 27 = .ok (.istore_n 3, 1) := by decide +kernel
theorem dX3_patternOf_28 : decode cX3_patternOf 28 = .ok (.iload_n 3, 1) := by decide +kernel
theorem dX3_patternOf_29 : decode cX3_patternOf 29 = .ok (.ifCond .eq 13, 3) := by decide +kernel
theorem dX3_patternOf_32 : decode cX3_patternOf 32 = .ok (.iload_n 1, 1) := by decide +kernel
theorem dX3_patternOf_33 : decode cX3_patternOf 33 = .ok (.iconst 1, 1) := by decide +kernel
theorem dX3_patternOf_34 : decode cX3_patternOf 34 = .ok (.isub, 1) := by decide +kernel
theorem dX3_patternOf_35 : decode cX3_patternOf 35 = .ok (.iconst 3, 1) := by decide +kernel
theorem dX3_patternOf_36 : decode cX3_patternOf 36 = .ok (.imul, 1) := by decide +kernel
theorem dX3_patternOf_37 : decode cX3_patternOf 37 = .ok (.iload_n 2, 1) := by decide +kernel
theorem dX3_patternOf_38 : decode cX3_patternOf 38 = .ok (.iadd, 1) := by decide +kernel
theorem dX3_patternOf_39 : decode cX3_patternOf 39 = .ok (.goto 4, 3) := by decide +kernel
theorem dX3_patternOf_42 : decode cX3_patternOf 42 = .ok (.iconst (-1), 1) := by decide +kernel
theorem dX3_patternOf_43 : decode cX3_patternOf 43 = .ok (.ireturn, 1) := by decide +kernel
theorem dX3_newestHasPattern_0 : decode cX3_newestHasPattern 0 = .ok (.iconst 0, 1) := by decide +kernel
theorem dX3_newestHasPattern_1 : decode cX3_newestHasPattern 1 = .ok (.istore_n 1, 1) := by decide +kernel
theorem dX3_newestHasPattern_2 : decode cX3_newestHasPattern 2 = .ok (.iload_n 1, 1) := by decide +kernel
theorem dX3_newestHasPattern_3 : decode cX3_newestHasPattern 3 = .ok (.iconst 3, 1) := by decide +kernel
theorem dX3_newestHasPattern_4 : decode cX3_newestHasPattern 4 = .ok (.if_icmp .ge 23, 3) := by decide +kernel
theorem dX3_newestHasPattern_7 : decode cX3_newestHasPattern 7 = .ok (.aload_n 0, 1) := by decide +kernel
theorem dX3_newestHasPattern_8 : decode cX3_newestHasPattern 8 = .ok (.aload_n 0, 1) := by decide +kernel
theorem dX3_newestHasPattern_9 : decode cX3_newestHasPattern 9 = .ok (.getfield 42, 3) := by decide +kernel
theorem dX3_newestHasPattern_12 : decode cX3_newestHasPattern 12 = .ok (.iload_n 1, 1) := by decide +kernel
theorem dX3_newestHasPattern_13 : decode cX3_newestHasPattern 13 = .ok (.invokevirtual 56, 3) := by decide +kernel
theorem dX3_newestHasPattern_16 : decode cX3_newestHasPattern 16 = .ok (.ifCond .eq 5, 3) := by decide +kernel
theorem dX3_newestHasPattern_19 : decode cX3_newestHasPattern 19 = .ok (.iconst 1, 1) := by decide +kernel
theorem dX3_newestHasPattern_20 : decode cX3_newestHasPattern 20 = .ok (.ireturn, 1) := by decide +kernel
theorem dX3_newestHasPattern_21 : decode cX3_newestHasPattern 21 = .ok (.iinc 1 1, 3) := by decide +kernel
theorem dX3_newestHasPattern_24 : decode cX3_newestHasPattern 24 = .ok (.goto (-22), 3) := by decide +kernel
theorem dX3_newestHasPattern_27 : decode cX3_newestHasPattern 27 = .ok (.iconst 0, 1) := by decide +kernel
theorem dX3_newestHasPattern_28 : decode cX3_newestHasPattern 28 = .ok (.ireturn, 1) := by decide +kernel
theorem dX3_print_0 : decode cX3_print 0 = .ok (.aload_n 0, 1) := by decide +kernel
theorem dX3_print_1 : decode cX3_print 1 = .ok (.getfield 46, 3) := by decide +kernel
theorem dX3_print_4 : decode cX3_print 4 = .ok (.aload_n 0, 1) := by decide +kernel
theorem dX3_print_5 : decode cX3_print 5 = .ok (.getfield 31, 3) := by decide +kernel
theorem dX3_print_8 : decode cX3_print 8 = .ok (.arraylength, 1) := by decide +kernel
theorem dX3_print_9 : decode cX3_print 9 = .ok (.if_icmp .ge 24, 3) := by decide +kernel
theorem dX3_print_12 : decode cX3_print 12 = .ok (.aload_n 0, 1) := by decide +kernel
theorem dX3_print_13 : decode cX3_print 13 = .ok (.getfield 31, 3) := by decide +kernel
theorem dX3_print_16 : decode cX3_print 16 = .ok (.aload_n 0, 1) := by decide +kernel
theorem dX3_print_17 : decode cX3_print 17 = .ok (.getfield 46, 3) := by decide +kernel
theorem dX3_print_20 : decode cX3_print 20 = .ok (.iload_n 1, 1) := by decide +kernel
theorem dX3_print_21 : decode cX3_print 21 = .ok (.i2c, 1) := by decide +kernel
theorem dX3_print_22 : decode cX3_print 22 = .ok (.castore, 1) := by decide +kernel
theorem dX3_print_23 : decode cX3_print 23 = .ok (.aload_n 0, 1) := by decide +kernel
theorem dX3_print_24 : decode cX3_print 24 = .ok (.dup, 1) := by decide +kernel
theorem dX3_print_25 : decode cX3_print 25 = .ok (.getfield 46, 3) := by decide +kernel
theorem dX3_print_28 : decode cX3_print 28 = .ok (.iconst 1, 1) := by decide +kernel
theorem dX3_print_29 : decode cX3_print 29 = .ok (.iadd, 1) := by decide +kernel
theorem dX3_print_30 : decode cX3_print 30 = .ok (.putfield 46, 3) := by decide +kernel
theorem dX3_print_33 : decode cX3_print 33 = .ok (.return_, 1) := by decide +kernel
theorem dX3_printGap_0 : decode cX3_printGap 0 = .ok (.aload_n 0, 1) := by decide +kernel
theorem dX3_printGap_1 : decode cX3_printGap 1 = .ok (.getfield 46, 3) := by decide +kernel
theorem dX3_printGap_4 : decode cX3_printGap 4 = .ok (.ifCond .le 24, 3) := by decide +kernel
theorem dX3_printGap_7 : decode cX3_printGap 7 = .ok (.aload_n 0, 1) := by decide +kernel
theorem dX3_printGap_8 : decode cX3_printGap 8 = .ok (.aload_n 0, 1) := by decide +kernel
theorem dX3_printGap_9 : decode cX3_printGap 9 = .ok (.getfield 46, 3) := by decide +kernel
theorem dX3_printGap_12 : decode cX3_printGap 12 = .ok (.iconst 1, 1) := by decide +kernel
theorem dX3_printGap_13 : decode cX3_printGap 13 = .ok (.isub, 1) := by decide +kernel
theorem dX3_printGap_14 : decode cX3_printGap 14 = .ok (.invokevirtual 60, 3) := by decide +kernel
theorem dX3_printGap_17 : decode cX3_printGap 17 = .ok (.bipush 10, 2) := by decide +kernel
theorem dX3_printGap_19 : decode cX3_printGap 19 = .ok (.if_icmp .eq 9, 3) := by decide +kernel
theorem dX3_printGap_22 : decode cX3_printGap 22 = .ok (.aload_n 0, 1) := by decide +kernel
theorem dX3_printGap_23 : decode cX3_printGap 23 = .ok (.bipush 32, 2) := by decide +kernel
theorem dX3_printGap_25 : decode cX3_printGap 25 = .ok (.invokevirtual 64, 3) := by decide +kernel
theorem dX3_printGap_28 : decode cX3_printGap 28 = .ok (.return_, 1) := by decide +kernel
theorem dX3_printWhole_0 : decode cX3_printWhole 0 = .ok (.aload_n 0, 1) := by decide +kernel
theorem dX3_printWhole_1 : decode cX3_printWhole 1 = .ok (.invokevirtual 68, 3) := by decide +kernel
theorem dX3_printWhole_4 : decode cX3_printWhole 4 = .ok (.ldc 71, 2) := by decide +kernel
theorem dX3_printWhole_6 : decode cX3_printWhole 6 = .ok (.istore_n 2, 1) := by decide +kernel
theorem dX3_printWhole_7 : decode cX3_printWhole 7 = .ok (.iload_n 2, 1) := by decide +kernel
theorem dX3_printWhole_8 : decode cX3_printWhole 8 = .ok (.ifCond .le 34, 3) := by decide +kernel
theorem dX3_printWhole_11 : decode cX3_printWhole 11 = .ok (.iload_n 1, 1) := by decide +kernel
theorem dX3_printWhole_12 : decode cX3_printWhole 12 = .ok (.iload_n 2, 1) := by decide +kernel
theorem dX3_printWhole_13 : decode cX3_printWhole 13 = .ok (.if_icmp .ge 8, 3) := by decide +kernel
theorem dX3_printWhole_16 : decode cX3_printWhole 16 = .ok (.iload_n 2, 1) := by decide +kernel
theorem dX3_printWhole_17 : decode cX3_printWhole 17 = .ok (.iconst 1, 1) := by decide +kernel
theorem dX3_printWhole_18 : decode cX3_printWhole 18 = .ok (.if_icmp .ne 16, 3) := by decide +kernel
theorem dX3_printWhole_21 : decode cX3_printWhole 21 = .ok (.aload_n 0, 1) := by decide +kernel
theorem dX3_printWhole_22 : decode cX3_printWhole 22 = .ok (.bipush 48, 2) := by decide +kernel
theorem dX3_printWhole_24 : decode cX3_printWhole 24 = .ok (.iload_n 1, 1) := by decide +kernel
theorem dX3_printWhole_25 : decode cX3_printWhole 25 = .ok (.iload_n 2, 1) := by decide +kernel
theorem dX3_printWhole_26 : decode cX3_printWhole 26 = .ok (.idiv, 1) := by decide +kernel
theorem dX3_printWhole_27 : decode cX3_printWhole 27 = .ok (.bipush 10, 2) := by decide +kernel
theorem dX3_printWhole_29 : decode cX3_printWhole 29 = .ok (.irem, 1) := by decide +kernel
theorem dX3_printWhole_30 : decode cX3_printWhole 30 = .ok (.iadd, 1) := by decide +kernel
theorem dX3_printWhole_31 : decode cX3_printWhole 31 = .ok (.invokevirtual 64, 3) := by decide +kernel
theorem dX3_printWhole_34 : decode cX3_printWhole 34 = .ok (.iload_n 2, 1) := by decide +kernel
theorem dX3_printWhole_35 : decode cX3_printWhole 35 = .ok (.bipush 10, 2) := by decide +kernel
theorem dX3_printWhole_37 : decode cX3_printWhole 37 = .ok (.idiv, 1) := by decide +kernel
theorem dX3_printWhole_38 : decode cX3_printWhole 38 = .ok (.istore_n 2, 1) := by decide +kernel
theorem dX3_printWhole_39 : decode cX3_printWhole 39 = .ok (.goto (-32), 3) := by decide +kernel
theorem dX3_printWhole_42 : decode cX3_printWhole 42 = .ok (.return_, 1) := by decide +kernel
theorem dX3_printedAt_0 : decode cX3_printedAt 0 = .ok (.iload_n 1, 1) := by decide +kernel
theorem dX3_printedAt_1 : decode cX3_printedAt 1 = .ok (.ifCond .lt 29, 3) := by decide +kernel
theorem dX3_printedAt_4 : decode cX3_printedAt 4 = .ok (.iload_n 1, 1) := by decide +kernel
theorem dX3_printedAt_5 : decode cX3_printedAt 5 = .ok (.aload_n 0, 1) := by decide +kernel
theorem dX3_printedAt_6 : decode cX3_printedAt 6 = .ok (.getfield 46, 3) := by decide +kernel
theorem dX3_printedAt_9 : decode cX3_printedAt 9 = .ok (.if_icmp .ge 21, 3) := by decide +kernel
theorem dX3_printedAt_12 : decode cX3_printedAt 12 = .ok (.iload_n 1, 1) := by decide +kernel
theorem dX3_printedAt_13 : decode cX3_printedAt 13 = .ok (.aload_n 0, 1) := by decide +kernel
theorem dX3_printedAt_14 : decode cX3_printedAt 14 = .ok (.getfield 31, 3) := by decide +kernel
theorem dX3_printedAt_17 : decode cX3_printedAt 17 = .ok (.arraylength, 1) := by decide +kernel
theorem dX3_printedAt_18 : decode cX3_printedAt 18 = .ok (.if_icmp .ge 12, 3) := by decide +kernel
theorem dX3_printedAt_21 : decode cX3_printedAt 21 = .ok (.aload_n 0, 1) := by decide +kernel
theorem dX3_printedAt_22 : decode cX3_printedAt 22 = .ok (.getfield 31, 3) := by decide +kernel
theorem dX3_printedAt_25 : decode cX3_printedAt 25 = .ok (.iload_n 1, 1) := by decide +kernel
theorem dX3_printedAt_26 : decode cX3_printedAt 26 = .ok (.caload, 1) := by decide +kernel
theorem dX3_printedAt_27 : decode cX3_printedAt 27 = .ok (.goto 4, 3) := by decide +kernel
theorem dX3_printedAt_30 : decode cX3_printedAt 30 = .ok (.iconst (-1), 1) := by decide +kernel
theorem dX3_printedAt_31 : decode cX3_printedAt 31 = .ok (.ireturn, 1) := by decide +kernel
theorem dX3_hitsOf_0 : decode cX3_hitsOf 0 = .ok (.aload_n 0, 1) := by decide +kernel
theorem dX3_hitsOf_1 : decode cX3_hitsOf 1 = .ok (.iload_n 1, 1) := by decide +kernel
theorem dX3_hitsOf_2 : decode cX3_hitsOf 2 = .ok (.iload_n 2, 1) := by decide +kernel
theorem dX3_hitsOf_3 : decode cX3_hitsOf 3 = .ok (.invokevirtual 52, 3) := by decide +kernel
theorem dX3_hitsOf_6 : decode cX3_hitsOf 6 = .ok (.istore_n 3, 1) := by decide +kernel
theorem dX3_hitsOf_7 : decode cX3_hitsOf 7 = .ok (.iload_n 3, 1) := by decide +kernel
theorem dX3_hitsOf_8 : decode cX3_hitsOf 8 = .ok (.iconst (-1), 1) := by decide +kernel
theorem dX3_hitsOf_9 : decode cX3_hitsOf 9 = .ok (.if_icmp .ne 7, 3) := by decide +kernel
theorem dX3_hitsOf_12 : decode cX3_hitsOf 12 = .ok (.lconst 0, 1) := by decide +kernel
theorem dX3_hitsOf_13 : decode cX3_hitsOf 13 = .ok (.goto 9, 3) := by decide +kernel
theorem dX3_hitsOf_16 : decode cX3_hitsOf 16 = .ok (.aload_n 0, 1) := by decide +kernel
theorem dX3_hitsOf_17 : decode cX3_hitsOf 17 = .ok (.getfield 27, 3) := by decide +kernel
theorem dX3_hitsOf_20 : decode cX3_hitsOf 20 = .ok (.iload_n 3, 1) := by decide +kernel
theorem dX3_hitsOf_21 : decode cX3_hitsOf 21 = .ok (.laload, 1) := by decide +kernel
theorem dX3_hitsOf_22 : decode cX3_hitsOf 22 = .ok (.lreturn, 1) := by decide +kernel
theorem dX3_matchPin_0 : decode cX3_matchPin 0 = .ok (.iconst 0, 1) := by decide +kernel
theorem dX3_matchPin_1 : decode cX3_matchPin 1 = .ok (.istore_n 3, 1) := by decide +kernel
theorem dX3_matchPin_2 : decode cX3_matchPin 2 = .ok (.iload_n 3, 1) := by decide +kernel
theorem dX3_matchPin_3 : decode cX3_matchPin 3 = .ok (.aload_n 0, 1) := by decide +kernel
theorem dX3_matchPin_4 : decode cX3_matchPin 4 = .ok (.getfield 42, 3) := by decide +kernel
theorem dX3_matchPin_7 : decode cX3_matchPin 7 = .ok (.iconst 3, 1) := by decide +kernel
theorem dX3_matchPin_8 : decode cX3_matchPin 8 = .ok (.imul, 1) := by decide +kernel
theorem dX3_matchPin_9 : decode cX3_matchPin 9 = .ok (.if_icmp .ge 61, 3) := by decide +kernel
theorem dX3_matchPin_12 : decode cX3_matchPin 12 = .ok (.aload_n 0, 1) := by decide +kernel
theorem dX3_matchPin_13 : decode cX3_matchPin 13 = .ok (.getfield 24, 3) := by decide +kernel
theorem dX3_matchPin_16 : decode cX3_matchPin 16 = .ok (.iload_n 3, 1) := by decide +kernel
theorem dX3_matchPin_17 : decode cX3_matchPin 17 = .ok (.iaload, 1) := by decide +kernel
theorem dX3_matchPin_18 : decode cX3_matchPin 18 = .ok (.ifCond .le 46, 3) := by decide +kernel
theorem dX3_matchPin_21 : decode cX3_matchPin 21 = .ok (.aload_n 0, 1) := by decide +kernel
theorem dX3_matchPin_22 : decode cX3_matchPin 22 = .ok (.getfield 27, 3) := by decide +kernel
theorem dX3_matchPin_25 : decode cX3_matchPin 25 = .ok (.iload_n 3, 1) := by decide +kernel
theorem dX3_matchPin_26 : decode cX3_matchPin 26 = .ok (.laload, 1) := by decide +kernel
theorem dX3_matchPin_27 : decode cX3_matchPin 27 = .ok (.lconst 1, 1) := by decide +kernel
theorem dX3_matchPin_28 : decode cX3_matchPin 28 = .ok (.iload_n 2, 1) := by decide +kernel
theorem dX3_matchPin_29 : decode cX3_matchPin 29 = .ok (.lshl, 1) := by decide +kernel
theorem dX3_matchPin_30 : decode cX3_matchPin 30 = .ok (.ldc2_w 72, 3) := by decide +kernel
theorem dX3_matchPin_33 : decode cX3_matchPin 33 = .ok (.lxor, 1) := by decide +kernel
theorem dX3_matchPin_34 : decode cX3_matchPin 34 = .ok (.land, 1) := by decide +kernel
theorem dX3_matchPin_35 : decode cX3_matchPin 35 = .ok (.lstore 4, 2) := by decide +kernel
theorem dX3_matchPin_37 : decode cX3_matchPin 37 = .ok (.aload_n 0, 1) := by decide +kernel
theorem dX3_matchPin_38 : decode cX3_matchPin 38 = .ok (.getfield 27, 3) := by decide +kernel
theorem dX3_matchPin_41 : decode cX3_matchPin 41 = .ok (.iload_n 3, 1) := by decide +kernel
theorem dX3_matchPin_42 : decode cX3_matchPin 42 = .ok (.aload_n 0, 1) := by decide +kernel
theorem dX3_matchPin_43 : decode cX3_matchPin 43 = .ok (.iload_n 3, 1) := by decide +kernel
theorem dX3_matchPin_44 : decode cX3_matchPin 44 = .ok (.aload_n 1, 1) := by decide +kernel
theorem dX3_matchPin_45 : decode cX3_matchPin 45 = .ok (.iload_n 2, 1) := by decide +kernel
theorem dX3_matchPin_46 : decode cX3_matchPin 46 = .ok (.invokevirtual 74, 3) := by decide +kernel
theorem dX3_matchPin_49 : decode cX3_matchPin 49 = .ok (.ifCond .eq 12, 3) := by decide +kernel
theorem dX3_matchPin_52 : decode cX3_matchPin 52 = .ok (.lload 4, 2) := by decide +kernel
theorem dX3_matchPin_54 : decode cX3_matchPin 54 = .ok (.lconst 1, 1) := by decide +kernel
theorem dX3_matchPin_55 : decode cX3_matchPin 55 = .ok (.iload_n 2, 1) := by decide +kernel
theorem dX3_matchPin_56 : decode cX3_matchPin 56 = .ok (.lshl, 1) := by decide +kernel
theorem dX3_matchPin_57 : decode cX3_matchPin 57 = .ok (.lor, 1) := by decide +kernel
theorem dX3_matchPin_58 : decode cX3_matchPin 58 = .ok (.goto 5, 3) := by decide +kernel
theorem dX3_matchPin_61 : decode cX3_matchPin 61 = .ok (.lload 4, 2) := by decide +kernel
theorem dX3_matchPin_63 : decode cX3_matchPin 63 = .ok (.lastore, 1) := by decide +kernel
theorem dX3_matchPin_64 : decode cX3_matchPin 64 = .ok (.iinc 3 1, 3) := by decide +kernel
theorem dX3_matchPin_67 : decode cX3_matchPin 67 = .ok (.goto (-65), 3) := by decide +kernel
theorem dX3_matchPin_70 : decode cX3_matchPin 70 = .ok (.return_, 1) := by decide +kernel
theorem dX3_fits_0 : decode cX3_fits 0 = .ok (.aload_n 2, 1) := by decide +kernel
theorem dX3_fits_1 : decode cX3_fits 1 = .ok (.iload_n 3, 1) := by decide +kernel
theorem dX3_fits_2 : decode cX3_fits 2 = .ok (.invokevirtual 78, 3) := by decide +kernel
theorem dX3_fits_5 : decode cX3_fits 5 = .ok (.istore 4, 2) := by decide +kernel
theorem dX3_fits_7 : decode cX3_fits 7 = .ok (.iload 4, 2) := by decide +kernel
theorem dX3_fits_9 : decode cX3_fits 9 = .ok (.ifCond .ne 5, 3) := by decide +kernel
theorem dX3_fits_12 : decode cX3_fits 12 = .ok (.iconst 0, 1) := by decide +kernel
theorem dX3_fits_13 : decode cX3_fits 13 = .ok (.ireturn, 1) := by decide +kernel
theorem dX3_fits_14 : decode cX3_fits 14 = .ok (.aload_n 0, 1) := by decide +kernel
theorem dX3_fits_15 : decode cX3_fits 15 = .ok (.iload_n 1, 1) := by decide +kernel
theorem dX3_fits_16 : decode cX3_fits 16 = .ok (.invokevirtual 83, 3) := by decide +kernel
theorem dX3_fits_19 : decode cX3_fits 19 = .ok (.istore 5, 2) := by decide +kernel
theorem dX3_fits_21 : decode cX3_fits 21 = .ok (.iconst 0, 1) := by decide +kernel
theorem dX3_fits_22 : decode cX3_fits 22 = .ok (.istore 6, 2) := by decide +kernel
theorem dX3_fits_24 : decode cX3_fits 24 = .ok (.iload 6, 2) := by decide +kernel
theorem dX3_fits_26 : decode cX3_fits 26 = .ok (.iload 4, 2) := by decide +kernel
theorem dX3_fits_28 : decode cX3_fits 28 = .ok (.if_icmp .ge 30, 3) := by decide +kernel
theorem dX3_fits_31 : decode cX3_fits 31 = .ok (.iload 5, 2) := by decide +kernel
theorem dX3_fits_33 : decode cX3_fits 33 = .ok (.ifCond .eq 25, 3) := by decide +kernel
theorem dX3_fits_36 : decode cX3_fits 36 = .ok (.aload_n 0, 1) := by decide +kernel
theorem dX3_fits_37 : decode cX3_fits 37 = .ok (.iload_n 1, 1) := by decide +kernel
theorem dX3_fits_38 : decode cX3_fits 38 = .ok (.iload 5, 2) := by decide +kernel
theorem dX3_fits_40 : decode cX3_fits 40 = .ok (.aload_n 2, 1) := by decide +kernel
theorem dX3_fits_41 : decode cX3_fits 41 = .ok (.iload_n 3, 1) := by decide +kernel
theorem dX3_fits_42 : decode cX3_fits 42 = .ok (.iload 6, 2) := by decide +kernel
theorem dX3_fits_44 : decode cX3_fits 44 = .ok (.invokevirtual 86, 3) := by decide +kernel
theorem dX3_fits_47 : decode cX3_fits 47 = .ok (.invokevirtual 90, 3) := by decide +kernel
theorem dX3_fits_50 : decode cX3_fits 50 = .ok (.istore 5, 2) := by decide +kernel
theorem dX3_fits_52 : decode cX3_fits 52 = .ok (.iinc 6 1, 3) := by decide +kernel
theorem dX3_fits_55 : decode cX3_fits 55 = .ok (.goto (-31), 3) := by decide +kernel
theorem dX3_fits_58 : decode cX3_fits 58 = .ok (.iload 5, 2) := by decide +kernel
theorem dX3_fits_60 : decode cX3_fits 60 = .ok (.aload_n 0, 1) := by decide +kernel
theorem dX3_fits_61 : decode cX3_fits 61 = .ok (.getfield 24, 3) := by decide +kernel
theorem dX3_fits_64 : decode cX3_fits 64 = .ok (.iload_n 1, 1) := by decide +kernel
theorem dX3_fits_65 : decode cX3_fits 65 = .ok (.iaload, 1) := by decide +kernel
theorem dX3_fits_66 : decode cX3_fits 66 = .ok (.ishr, 1) := by decide +kernel
theorem dX3_fits_67 : decode cX3_fits 67 = .ok (.iconst 1, 1) := by decide +kernel
theorem dX3_fits_68 : decode cX3_fits 68 = .ok (.iand, 1) := by decide +kernel
theorem dX3_fits_69 : decode cX3_fits 69 = .ok (.iconst 1, 1) := by decide +kernel
theorem dX3_fits_70 : decode cX3_fits 70 = .ok (.if_icmp .ne 7, 3) := by decide +kernel
theorem dX3_fits_73 : decode cX3_fits 73 = .ok (.iconst 1, 1) := by decide +kernel
theorem dX3_fits_74 : decode cX3_fits 74 = .ok (.goto 4, 3) := by decide +kernel
theorem dX3_fits_77 : decode cX3_fits 77 = .ok (.iconst 0, 1) := by decide +kernel
theorem dX3_fits_78 : decode cX3_fits 78 = .ok (.ireturn, 1) := by decide +kernel
theorem dX3_reachedByStars_0 : decode cX3_reachedByStars 0 = .ok (.iconst 1, 1) := by decide +kernel
theorem dX3_reachedByStars_1 : decode cX3_reachedByStars 1 = .ok (.istore_n 2, 1) := by decide +kernel
theorem dX3_reachedByStars_2 : decode cX3_reachedByStars 2 = .ok (.iconst 0, 1) := by decide +kernel
theorem dX3_reachedByStars_3 : decode cX3_reachedByStars 3 = .ok (.istore_n 3, 1) := by decide +kernel
theorem dX3_reachedByStars_4 : decode cX3_reachedByStars 4 = .ok (.iload_n 3, 1) := by decide +kernel
theorem dX3_reachedByStars_5 : decode cX3_reachedByStars 5 = .ok (.aload_n 0, 1) := by decide +kernel
theorem dX3_reachedByStars_6 : decode cX3_reachedByStars 6 = .ok (.getfield 24, 3) := by decide +kernel
theorem dX3_reachedByStars_9 : decode cX3_reachedByStars 9 = .ok (.iload_n 1, 1) := by decide +kernel
theorem dX3_reachedByStars_10 : decode cX3_reachedByStars 10 = .ok (.iaload, 1) := by decide +kernel
theorem dX3_reachedByStars_11 : decode cX3_reachedByStars 11 = .ok (.if_icmp .ge 35, 3) := by decide +kernel
theorem dX3_reachedByStars_14 : decode cX3_reachedByStars 14 = .ok (.aload_n 0, 1) := by decide +kernel
theorem dX3_reachedByStars_15 : decode cX3_reachedByStars 15 = .ok (.aload_n 0, 1) := by decide +kernel
theorem dX3_reachedByStars_16 : decode cX3_reachedByStars 16 = .ok (.getfield 21, 3) := by decide +kernel
theorem dX3_reachedByStars_19 : decode cX3_reachedByStars 19 = .ok (.iload_n 1, 1) := by decide +kernel
theorem dX3_reachedByStars_20 : decode cX3_reachedByStars 20 = .ok (.iaload, 1) := by decide +kernel
theorem dX3_reachedByStars_21 : decode cX3_reachedByStars 21 = .ok (.iload_n 3, 1) := by decide +kernel
theorem dX3_reachedByStars_22 : decode cX3_reachedByStars 22 = .ok (.iadd, 1) := by decide +kernel
theorem dX3_reachedByStars_23 : decode cX3_reachedByStars 23 = .ok (.invokevirtual 60, 3) := by decide +kernel
theorem dX3_reachedByStars_26 : decode cX3_reachedByStars 26 = .ok (.bipush 42, 2) := by decide +kernel
theorem dX3_reachedByStars_28 : decode cX3_reachedByStars 28 = .ok (.if_icmp .eq 6, 3) := by decide +kernel
theorem dX3_reachedByStars_31 : decode cX3_reachedByStars 31 = .ok (.goto 15, 3) := by decide +kernel
theorem dX3_reachedByStars_34 : decode cX3_reachedByStars 34 = .ok (.iload_n 2, 1) := by decide +kernel
theorem dX3_reachedByStars_35 : decode cX3_reachedByStars 35 = .ok (.iconst 2, 1) := by decide +kernel
theorem dX3_reachedByStars_36 : decode cX3_reachedByStars 36 = .ok (.iload_n 3, 1) := by decide +kernel
theorem dX3_reachedByStars_37 : decode cX3_reachedByStars 37 = .ok (.ishl, 1) := by decide +kernel
theorem dX3_reachedByStars_38 : decode cX3_reachedByStars 38 = .ok (.ior, 1) := by decide +kernel
theorem dX3_reachedByStars_39 : decode cX3_reachedByStars 39 = .ok (.istore_n 2, 1) := by decide +kernel
theorem dX3_reachedByStars_40 : decode cX3_reachedByStars 40 = .ok (.iinc 3 1, 3) := by decide +kernel
theorem dX3_reachedByStars_43 : decode cX3_reachedByStars 43 = .ok (.goto (-39), 3) := by decide +kernel
theorem dX3_reachedByStars_46 : decode cX3_reachedByStars 46 = .ok (.iload_n 2, 1) := by decide +kernel
theorem dX3_reachedByStars_47 : decode cX3_reachedByStars 47 = .ok (.ireturn, 1) := by decide +kernel
theorem dX3_reachedBy_0 : decode cX3_reachedBy 0 = .ok (.iconst 0, 1) := by decide +kernel
theorem dX3_reachedBy_1 : decode cX3_reachedBy 1 = .ok (.istore 4, 2) := by decide +kernel
theorem dX3_reachedBy_3 : decode cX3_reachedBy 3 = .ok (.iconst 0, 1) := by decide +kernel
theorem dX3_reachedBy_4 : decode cX3_reachedBy 4 = .ok (.istore 5, 2) := by decide +kernel
theorem dX3_reachedBy_6 : decode cX3_reachedBy 6 = .ok (.iload 5, 2) := by decide +kernel
theorem dX3_reachedBy_8 : decode cX3_reachedBy 8 = .ok (.aload_n 0, 1) := by decide +kernel
theorem dX3_reachedBy_9 : decode cX3_reachedBy 9 = .ok (.getfield 24, 3) := by decide +kernel
theorem dX3_reachedBy_12 : decode cX3_reachedBy 12 = .ok (.iload_n 1, 1) := by decide +kernel
theorem dX3_reachedBy_13 : decode cX3_reachedBy 13 = .ok (.iaload, 1) := by decide +kernel
theorem dX3_reachedBy_14 : decode cX3_reachedBy 14 = .ok (.if_icmp .ge 85, 3) := by decide +kernel
theorem dX3_reachedBy_17 : decode cX3_reachedBy 17 = .ok (.aload_n 0, 1) := by decide +kernel
theorem dX3_reachedBy_18 : decode cX3_reachedBy 18 = .ok (.aload_n 0, 1) := by decide +kernel
theorem dX3_reachedBy_19 : decode cX3_reachedBy 19 = .ok (.getfield 21, 3) := by decide +kernel
theorem dX3_reachedBy_22 : decode cX3_reachedBy 22 = .ok (.iload_n 1, 1) := by decide +kernel
theorem dX3_reachedBy_23 : decode cX3_reachedBy 23 = .ok (.iaload, 1) := by decide +kernel
theorem dX3_reachedBy_24 : decode cX3_reachedBy 24 = .ok (.iload 5, 2) := by decide +kernel
theorem dX3_reachedBy_26 : decode cX3_reachedBy 26 = .ok (.iadd, 1) := by decide +kernel
theorem dX3_reachedBy_27 : decode cX3_reachedBy 27 = .ok (.invokevirtual 60, 3) := by decide +kernel
theorem dX3_reachedBy_30 : decode cX3_reachedBy 30 = .ok (.istore 6, 2) := by decide +kernel
theorem dX3_reachedBy_32 : decode cX3_reachedBy 32 = .ok (.iload_n 2, 1) := by decide +kernel
theorem dX3_reachedBy_33 : decode cX3_reachedBy 33 = .ok (.iconst 1, 1) := by decide +kernel
theorem dX3_reachedBy_34 : decode cX3_reachedBy 34 = .ok (.iload 5, 2) := by decide +kernel
theorem dX3_reachedBy_36 : decode cX3_reachedBy 36 = .ok (.ishl, 1) := by decide +kernel
theorem dX3_reachedBy_37 : decode cX3_reachedBy 37 = .ok (.iand, 1) := by decide +kernel
theorem dX3_reachedBy_38 : decode cX3_reachedBy 38 = .ok (.istore 7, 2) := by decide +kernel
theorem dX3_reachedBy_40 : decode cX3_reachedBy 40 = .ok (.iload 6, 2) := by decide +kernel
theorem dX3_reachedBy_42 : decode cX3_reachedBy 42 = .ok (.bipush 42, 2) := by decide +kernel
theorem dX3_reachedBy_44 : decode cX3_reachedBy 44 = .ok (.if_icmp .ne 27, 3) := by decide +kernel
theorem dX3_reachedBy_47 : decode cX3_reachedBy 47 = .ok (.iload 4, 2) := by decide +kernel
theorem dX3_reachedBy_49 : decode cX3_reachedBy 49 = .ok (.iload 7, 2) := by decide +kernel
theorem dX3_reachedBy_51 : decode cX3_reachedBy 51 = .ok (.ior, 1) := by decide +kernel
theorem dX3_reachedBy_52 : decode cX3_reachedBy 52 = .ok (.istore 4, 2) := by decide +kernel
theorem dX3_reachedBy_54 : decode cX3_reachedBy 54 = .ok (.iload 4, 2) := by decide +kernel
theorem dX3_reachedBy_56 : decode cX3_reachedBy 56 = .ok (.iload 4, 2) := by decide +kernel
theorem dX3_reachedBy_58 : decode cX3_reachedBy 58 = .ok (.iconst 1, 1) := by decide +kernel
theorem dX3_reachedBy_59 : decode cX3_reachedBy 59 = .ok (.iload 5, 2) := by decide +kernel
theorem dX3_reachedBy_61 : decode cX3_reachedBy 61 = .ok (.ishl, 1) := by decide +kernel
theorem dX3_reachedBy_62 : decode cX3_reachedBy 62 = .ok (.iand, 1) := by decide +kernel
theorem dX3_reachedBy_63 : decode cX3_reachedBy 63 = .ok (.iconst 1, 1) := by decide +kernel
theorem dX3_reachedBy_64 : decode cX3_reachedBy 64 = .ok (.ishl, 1) := by decide +kernel
theorem dX3_reachedBy_65 : decode cX3_reachedBy 65 = .ok (.ior, 1) := by decide +kernel
theorem dX3_reachedBy_66 : decode cX3_reachedBy 66 = .ok (.istore 4, 2) := by decide +kernel
theorem dX3_reachedBy_68 : decode cX3_reachedBy 68 = .ok (.goto 25, 3) := by decide +kernel
theorem dX3_reachedBy_71 : decode cX3_reachedBy 71 = .ok (.iload 6, 2) := by decide +kernel
theorem dX3_reachedBy_73 : decode cX3_reachedBy 73 = .ok (.bipush 63, 2) := by decide +kernel
theorem dX3_reachedBy_75 : decode cX3_reachedBy 75 = .ok (.if_icmp .eq 9, 3) := by decide +kernel
theorem dX3_reachedBy_78 : decode cX3_reachedBy 78 = .ok (.iload 6, 2) := by decide +kernel
theorem dX3_reachedBy_80 : decode cX3_reachedBy 80 = .ok (.iload_n 3, 1) := by decide +kernel
theorem dX3_reachedBy_81 : decode cX3_reachedBy 81 = .ok (.if_icmp .ne 12, 3) := by decide +kernel
theorem dX3_reachedBy_84 : decode cX3_reachedBy 84 = .ok (.iload 4, 2) := by decide +kernel
theorem dX3_reachedBy_86 : decode cX3_reachedBy 86 = .ok (.iload 7, 2) := by decide +kernel
theorem dX3_reachedBy_88 : decode cX3_reachedBy 88 = .ok (.iconst 1, 1) := by decide +kernel
theorem dX3_reachedBy_89 : decode cX3_reachedBy 89 = .ok (.ishl, 1) := by decide +kernel
theorem dX3_reachedBy_90 : decode cX3_reachedBy 90 = .ok (.ior, 1) := by decide +kernel
theorem dX3_reachedBy_91 : decode cX3_reachedBy 91 = .ok (.istore 4, 2) := by decide +kernel
theorem dX3_reachedBy_93 : decode cX3_reachedBy 93 = .ok (.iinc 5 1, 3) := by decide +kernel
theorem dX3_reachedBy_96 : decode cX3_reachedBy 96 = .ok (.goto (-90), 3) := by decide +kernel
theorem dX3_reachedBy_99 : decode cX3_reachedBy 99 = .ok (.iload 4, 2) := by decide +kernel
theorem dX3_reachedBy_101 : decode cX3_reachedBy 101 = .ok (.ireturn, 1) := by decide +kernel
theorem dX3_linkOf_0 : decode cX3_linkOf 0 = .ok (.iload_n 1, 1) := by decide +kernel
theorem dX3_linkOf_1 : decode cX3_linkOf 1 = .ok (.iconst 1, 1) := by decide +kernel
theorem dX3_linkOf_2 : decode cX3_linkOf 2 = .ok (.if_icmp .lt 24, 3) := by decide +kernel
theorem dX3_linkOf_5 : decode cX3_linkOf 5 = .ok (.iload_n 1, 1) := by decide +kernel
theorem dX3_linkOf_6 : decode cX3_linkOf 6 = .ok (.aload_n 0, 1) := by decide +kernel
theorem dX3_linkOf_7 : decode cX3_linkOf 7 = .ok (.getfield 42, 3) := by decide +kernel
theorem dX3_linkOf_10 : decode cX3_linkOf 10 = .ok (.if_icmp .gt 16, 3) := by decide +kernel
theorem dX3_linkOf_13 : decode cX3_linkOf 13 = .ok (.iload_n 2, 1) := by decide +kernel
theorem dX3_linkOf_14 : decode cX3_linkOf 14 = .ok (.ifCond .lt 12, 3) := by decide +kernel
theorem dX3_linkOf_17 : decode cX3_linkOf 17 = .ok (.iload_n 2, 1) := by decide +kernel
theorem dX3_linkOf_18 : decode cX3_linkOf 18 = .ok (.iconst 2, 1) := by decide +kernel
theorem dX3_linkOf_19 : decode cX3_linkOf 19 = .ok (.if_icmp .ge 7, 3) := by decide +kernel
theorem dX3_linkOf_22 : decode cX3_linkOf 22 = .ok (.iconst 1, 1) := by decide +kernel
theorem dX3_linkOf_23 : decode cX3_linkOf 23 = .ok (.goto 4, 3) := by decide +kernel
theorem dX3_linkOf_26 : decode cX3_linkOf 26 = .ok (.iconst 0, 1) := by decide +kernel
theorem dX3_linkOf_27 : decode cX3_linkOf 27 = .ok (.istore_n 3, 1) := by decide +kernel
theorem dX3_linkOf_28 : decode cX3_linkOf 28 = .ok (.iload_n 3, 1) := by decide +kernel
theorem dX3_linkOf_29 : decode cX3_linkOf 29 = .ok (.ifCond .eq 18, 3) := by decide +kernel
theorem dX3_linkOf_32 : decode cX3_linkOf 32 = .ok (.aload_n 0, 1) := by decide +kernel
theorem dX3_linkOf_33 : decode cX3_linkOf 33 = .ok (.getfield 18, 3) := by decide +kernel
theorem dX3_linkOf_36 : decode cX3_linkOf 36 = .ok (.iload_n 1, 1) := by decide +kernel
theorem dX3_linkOf_37 : decode cX3_linkOf 37 = .ok (.iconst 1, 1) := by decide +kernel
theorem dX3_linkOf_38 : decode cX3_linkOf 38 = .ok (.isub, 1) := by decide +kernel
theorem dX3_linkOf_39 : decode cX3_linkOf 39 = .ok (.iconst 2, 1) := by decide +kernel
theorem dX3_linkOf_40 : decode cX3_linkOf 40 = .ok (.imul, 1) := by decide +kernel
theorem dX3_linkOf_41 : decode cX3_linkOf 41 = .ok (.iload_n 2, 1) := by decide +kernel
theorem dX3_linkOf_42 : decode cX3_linkOf 42 = .ok (.iadd, 1) := by decide +kernel
theorem dX3_linkOf_43 : decode cX3_linkOf 43 = .ok (.iaload, 1) := by decide +kernel
theorem dX3_linkOf_44 : decode cX3_linkOf 44 = .ok (.goto 4, 3) := by decide +kernel
theorem dX3_linkOf_47 : decode cX3_linkOf 47 = .ok (.iconst (-1), 1) := by decide +kernel
theorem dX3_linkOf_48 : decode cX3_linkOf 48 = .ok (.ireturn, 1) := by decide +kernel
theorem dX3_saysApart_0 : decode cX3_saysApart 0 = .ok (.iconst 1, 1) := by decide +kernel
theorem dX3_saysApart_1 : decode cX3_saysApart 1 = .ok (.istore_n 3, 1) := by decide +kernel
theorem dX3_saysApart_2 : decode cX3_saysApart 2 = .ok (.iload_n 3, 1) := by decide +kernel
theorem dX3_saysApart_3 : decode cX3_saysApart 3 = .ok (.aload_n 0, 1) := by decide +kernel
theorem dX3_saysApart_4 : decode cX3_saysApart 4 = .ok (.getfield 42, 3) := by decide +kernel
theorem dX3_saysApart_7 : decode cX3_saysApart 7 = .ok (.if_icmp .gt 63, 3) := by decide +kernel
theorem dX3_saysApart_10 : decode cX3_saysApart 10 = .ok (.aload_n 0, 1) := by decide +kernel
theorem dX3_saysApart_11 : decode cX3_saysApart 11 = .ok (.getfield 9, 3) := by decide +kernel
theorem dX3_saysApart_14 : decode cX3_saysApart 14 = .ok (.iload_n 3, 1) := by decide +kernel
theorem dX3_saysApart_15 : decode cX3_saysApart 15 = .ok (.iconst 1, 1) := by decide +kernel
theorem dX3_saysApart_16 : decode cX3_saysApart 16 = .ok (.isub, 1) := by decide +kernel
theorem dX3_saysApart_17 : decode cX3_saysApart 17 = .ok (.iaload, 1) := by decide +kernel
theorem dX3_saysApart_18 : decode cX3_saysApart 18 = .ok (.iconst 3, 1) := by decide +kernel
theorem dX3_saysApart_19 : decode cX3_saysApart 19 = .ok (.if_icmp .ne 45, 3) := by decide +kernel
theorem dX3_saysApart_22 : decode cX3_saysApart 22 = .ok (.aload_n 0, 1) := by decide +kernel
theorem dX3_saysApart_23 : decode cX3_saysApart 23 = .ok (.iload_n 3, 1) := by decide +kernel
theorem dX3_saysApart_24 : decode cX3_saysApart 24 = .ok (.iconst 0, 1) := by decide +kernel
theorem dX3_saysApart_25 : decode cX3_saysApart 25 = .ok (.invokevirtual 94, 3) := by decide +kernel
theorem dX3_saysApart_28 : decode cX3_saysApart 28 = .ok (.istore 4, 2) := by decide +kernel
theorem dX3_saysApart_30 : decode cX3_saysApart 30 = .ok (.aload_n 0, 1) := by decide +kernel
theorem dX3_saysApart_31 : decode cX3_saysApart 31 = .ok (.iload_n 3, 1) := by decide +kernel
theorem dX3_saysApart_32 : decode cX3_saysApart 32 = .ok (.iconst 1, 1) := by decide +kernel
theorem dX3_saysApart_33 : decode cX3_saysApart 33 = .ok (.invokevirtual 94, 3) := by decide +kernel
theorem dX3_saysApart_36 : decode cX3_saysApart 36 = .ok (.istore 5, 2) := by decide +kernel
theorem dX3_saysApart_38 : decode cX3_saysApart 38 = .ok (.iload 4, 2) := by decide +kernel
theorem dX3_saysApart_40 : decode cX3_saysApart 40 = .ok (.iload_n 1, 1) := by decide +kernel
theorem dX3_saysApart_41 : decode cX3_saysApart 41 = .ok (.if_icmp .ne 9, 3) := by decide +kernel
theorem dX3_saysApart_44 : decode cX3_saysApart 44 = .ok (.iload 5, 2) := by decide +kernel
theorem dX3_saysApart_46 : decode cX3_saysApart 46 = .ok (.iload_n 2, 1) := by decide +kernel
theorem dX3_saysApart_47 : decode cX3_saysApart 47 = .ok (.if_icmp .eq 15, 3) := by decide +kernel
theorem dX3_saysApart_50 : decode cX3_saysApart 50 = .ok (.iload 4, 2) := by decide +kernel
theorem dX3_saysApart_52 : decode cX3_saysApart 52 = .ok (.iload_n 2, 1) := by decide +kernel
theorem dX3_saysApart_53 : decode cX3_saysApart 53 = .ok (.if_icmp .ne 11, 3) := by decide +kernel
theorem dX3_saysApart_56 : decode cX3_saysApart 56 = .ok (.iload 5, 2) := by decide +kernel
theorem dX3_saysApart_58 : decode cX3_saysApart 58 = .ok (.iload_n 1, 1) := by decide +kernel
theorem dX3_saysApart_59 : decode cX3_saysApart 59 = .ok (.if_icmp .ne 5, 3) := by decide +kernel
theorem dX3_saysApart_62 : decode cX3_saysApart 62 = .ok (.iconst 1, 1) := by decide +kernel
theorem dX3_saysApart_63 : decode cX3_saysApart 63 = .ok (.ireturn, 1) := by decide +kernel
theorem dX3_saysApart_64 : decode cX3_saysApart 64 = .ok (.iinc 3 1, 3) := by decide +kernel
theorem dX3_saysApart_67 : decode cX3_saysApart 67 = .ok (.goto (-65), 3) := by decide +kernel
theorem dX3_saysApart_70 : decode cX3_saysApart 70 = .ok (.iconst 0, 1) := by decide +kernel
theorem dX3_saysApart_71 : decode cX3_saysApart 71 = .ok (.ireturn, 1) := by decide +kernel
theorem dX3_winner_0 : decode cX3_winner 0 = .ok (.iconst 0, 1) := by decide +kernel
theorem dX3_winner_1 : decode cX3_winner 1 = .ok (.istore 4, 2) := by decide +kernel
theorem dX3_winner_3 : decode cX3_winner 3 = .ok (.iconst 0, 1) := by decide +kernel
theorem dX3_winner_4 : decode cX3_winner 4 = .ok (.istore 5, 2) := by decide +kernel
theorem dX3_winner_6 : decode cX3_winner 6 = .ok (.iconst 1, 1) := by decide +kernel
theorem dX3_winner_7 : decode cX3_winner 7 = .ok (.istore 6, 2) := by decide +kernel
theorem dX3_winner_9 : decode cX3_winner 9 = .ok (.iload 6, 2) := by decide +kernel
theorem dX3_winner_11 : decode cX3_winner 11 = .ok (.aload_n 0, 1) := by decide +kernel
theorem dX3_winner_12 : decode cX3_winner 12 = .ok (.getfield 42, 3) := by decide +kernel
theorem dX3_winner_15 : decode cX3_winner 15 = .ok (.if_icmp .gt 102, 3) := by decide +kernel
theorem dX3_winner_18 : decode cX3_winner 18 = .ok (.aload_n 0, 1) := by decide +kernel
theorem dX3_winner_19 : decode cX3_winner 19 = .ok (.getfield 9, 3) := by decide +kernel
theorem dX3_winner_22 : decode cX3_winner 22 = .ok (.iload 6, 2) := by decide +kernel
theorem dX3_winner_24 : decode cX3_winner 24 = .ok (.iconst 1, 1) := by decide +kernel
theorem dX3_winner_25 : decode cX3_winner 25 = .ok (.isub, 1) := by decide +kernel
theorem dX3_winner_26 : decode cX3_winner 26 = .ok (.iaload, 1) := by decide +kernel
theorem dX3_winner_27 : decode cX3_winner 27 = .ok (.invokestatic 97, 3) := by decide +kernel
theorem dX3_winner_30 : decode cX3_winner 30 = .ok (.istore 7, 2) := by decide +kernel
theorem dX3_winner_32 : decode cX3_winner 32 = .ok (.iload 7, 2) := by decide +kernel
theorem dX3_winner_34 : decode cX3_winner 34 = .ok (.ifCond .le 40, 3) := by decide +kernel
theorem dX3_winner_37 : decode cX3_winner 37 = .ok (.aload_n 0, 1) := by decide +kernel
theorem dX3_winner_38 : decode cX3_winner 38 = .ok (.iload 6, 2) := by decide +kernel
theorem dX3_winner_40 : decode cX3_winner 40 = .ok (.iconst 0, 1) := by decide +kernel
theorem dX3_winner_41 : decode cX3_winner 41 = .ok (.iload_n 1, 1) := by decide +kernel
theorem dX3_winner_42 : decode cX3_winner 42 = .ok (.invokevirtual 100, 3) := by decide +kernel
theorem dX3_winner_45 : decode cX3_winner 45 = .ok (.ifCond .eq 29, 3) := by decide +kernel
theorem dX3_winner_48 : decode cX3_winner 48 = .ok (.aload_n 0, 1) := by decide +kernel
theorem dX3_winner_49 : decode cX3_winner 49 = .ok (.iload 6, 2) := by decide +kernel
theorem dX3_winner_51 : decode cX3_winner 51 = .ok (.iconst 1, 1) := by decide +kernel
theorem dX3_winner_52 : decode cX3_winner 52 = .ok (.iload_n 2, 1) := by decide +kernel
theorem dX3_winner_53 : decode cX3_winner 53 = .ok (.invokevirtual 100, 3) := by decide +kernel
theorem dX3_winner_56 : decode cX3_winner 56 = .ok (.ifCond .eq 18, 3) := by decide +kernel
theorem dX3_winner_59 : decode cX3_winner 59 = .ok (.aload_n 0, 1) := by decide +kernel
theorem dX3_winner_60 : decode cX3_winner 60 = .ok (.iload 6, 2) := by decide +kernel
theorem dX3_winner_62 : decode cX3_winner 62 = .ok (.iconst 2, 1) := by decide +kernel
theorem dX3_winner_63 : decode cX3_winner 63 = .ok (.iload_n 3, 1) := by decide +kernel
theorem dX3_winner_64 : decode cX3_winner 64 = .ok (.invokevirtual 100, 3) := by decide +kernel
theorem dX3_winner_67 : decode cX3_winner 67 = .ok (.ifCond .eq 7, 3) := by decide +kernel
theorem dX3_winner_70 : decode cX3_winner 70 = .ok (.iconst 1, 1) := by decide +kernel
theorem dX3_winner_71 : decode cX3_winner 71 = .ok (.goto 4, 3) := by decide +kernel
theorem dX3_winner_74 : decode cX3_winner 74 = .ok (.iconst 0, 1) := by decide +kernel
theorem dX3_winner_75 : decode cX3_winner 75 = .ok (.istore 8, 2) := by decide +kernel
theorem dX3_winner_77 : decode cX3_winner 77 = .ok (.iload 7, 2) := by decide +kernel
theorem dX3_winner_79 : decode cX3_winner 79 = .ok (.bipush 8, 2) := by decide +kernel
theorem dX3_winner_81 : decode cX3_winner 81 = .ok (.imul, 1) := by decide +kernel
theorem dX3_winner_82 : decode cX3_winner 82 = .ok (.aload_n 0, 1) := by decide +kernel
theorem dX3_winner_83 : decode cX3_winner 83 = .ok (.iload 6, 2) := by decide +kernel
theorem dX3_winner_85 : decode cX3_winner 85 = .ok (.invokevirtual 104, 3) := by decide +kernel
theorem dX3_winner_88 : decode cX3_winner 88 = .ok (.iadd, 1) := by decide +kernel
theorem dX3_winner_89 : decode cX3_winner 89 = .ok (.istore 9, 2) := by decide +kernel
theorem dX3_winner_91 : decode cX3_winner 91 = .ok (.iload 8, 2) := by decide +kernel
theorem dX3_winner_93 : decode cX3_winner 93 = .ok (.ifCond .eq 18, 3) := by decide +kernel
theorem dX3_winner_96 : decode cX3_winner 96 = .ok (.iload 9, 2) := by decide +kernel
theorem dX3_winner_98 : decode cX3_winner 98 = .ok (.iload 5, 2) := by decide +kernel
theorem dX3_winner_100 : decode cX3_winner 100 = .ok (.if_icmp .lt 11, 3) := by decide +kernel
theorem dX3_winner_103 : decode cX3_winner 103 = .ok (.iload 6, 2) := by decide +kernel
theorem dX3_winner_105 : decode cX3_winner 105 = .ok (.istore 4, 2) := by decide +kernel
theorem dX3_winner_107 : decode cX3_winner 107 = .ok (.iload 9, 2) := by decide +kernel
theorem dX3_winner_109 : decode cX3_winner 109 = .ok (.istore 5, 2) := by decide +kernel
theorem dX3_winner_111 : decode cX3_winner 111 = .ok (.iinc 6 1, 3) := by decide +kernel
theorem dX3_winner_114 : decode cX3_winner 114 = .ok (.goto (-105), 3) := by decide +kernel
theorem dX3_winner_117 : decode cX3_winner 117 = .ok (.iload 4, 2) := by decide +kernel
theorem dX3_winner_119 : decode cX3_winner 119 = .ok (.ireturn, 1) := by decide +kernel
theorem dX3_strengthOf_0 : decode cX3_strengthOf 0 = .ok (.iload_n 0, 1) := by decide +kernel
theorem dX3_strengthOf_1 : decode cX3_strengthOf 1 = .ok (.tableswitch 37 4 7 #[31, 35, 33, 33], 31) := by decide +kernel
theorem dX3_strengthOf_32 : decode cX3_strengthOf 32 = .ok (.iconst 3, 1) := by decide +kernel
theorem dX3_strengthOf_33 : decode cX3_strengthOf 33 = .ok (.ireturn, 1) := by decide +kernel
theorem dX3_strengthOf_34 : decode cX3_strengthOf 34 = .ok (.iconst 2, 1) := by decide +kernel
theorem dX3_strengthOf_35 : decode cX3_strengthOf 35 = .ok (.ireturn, 1) := by decide +kernel
theorem dX3_strengthOf_36 : decode cX3_strengthOf 36 = .ok (.iconst 1, 1) := by decide +kernel
theorem dX3_strengthOf_37 : decode cX3_strengthOf 37 = .ok (.ireturn, 1) := by decide +kernel
theorem dX3_strengthOf_38 : decode cX3_strengthOf 38 = .ok (.iconst 0, 1) := by decide +kernel
theorem dX3_strengthOf_39 : decode cX3_strengthOf 39 = .ok (.ireturn, 1) := by decide +kernel
theorem dX3_weightOf_0 : decode cX3_weightOf 0 = .ok (.aload_n 0, 1) := by decide +kernel
theorem dX3_weightOf_1 : decode cX3_weightOf 1 = .ok (.iload_n 1, 1) := by decide +kernel
theorem dX3_weightOf_2 : decode cX3_weightOf 2 = .ok (.iconst 0, 1) := by decide +kernel
theorem dX3_weightOf_3 : decode cX3_weightOf 3 = .ok (.invokevirtual 56, 3) := by decide +kernel
theorem dX3_weightOf_6 : decode cX3_weightOf 6 = .ok (.ifCond .eq 7, 3) := by decide +kernel
theorem dX3_weightOf_9 : decode cX3_weightOf 9 = .ok (.iconst 4, 1) := by decide +kernel
theorem dX3_weightOf_10 : decode cX3_weightOf 10 = .ok (.goto 4, 3) := by decide +kernel
theorem dX3_weightOf_13 : decode cX3_weightOf 13 = .ok (.iconst 0, 1) := by decide +kernel
theorem dX3_weightOf_14 : decode cX3_weightOf 14 = .ok (.aload_n 0, 1) := by decide +kernel
theorem dX3_weightOf_15 : decode cX3_weightOf 15 = .ok (.iload_n 1, 1) := by decide +kernel
theorem dX3_weightOf_16 : decode cX3_weightOf 16 = .ok (.iconst 2, 1) := by decide +kernel
theorem dX3_weightOf_17 : decode cX3_weightOf 17 = .ok (.invokevirtual 56, 3) := by decide +kernel
theorem dX3_weightOf_20 : decode cX3_weightOf 20 = .ok (.ifCond .eq 7, 3) := by decide +kernel
theorem dX3_weightOf_23 : decode cX3_weightOf 23 = .ok (.iconst 2, 1) := by decide +kernel
theorem dX3_weightOf_24 : decode cX3_weightOf 24 = .ok (.goto 4, 3) := by decide +kernel
theorem dX3_weightOf_27 : decode cX3_weightOf 27 = .ok (.iconst 0, 1) := by decide +kernel
theorem dX3_weightOf_28 : decode cX3_weightOf 28 = .ok (.iadd, 1) := by decide +kernel
theorem dX3_weightOf_29 : decode cX3_weightOf 29 = .ok (.aload_n 0, 1) := by decide +kernel
theorem dX3_weightOf_30 : decode cX3_weightOf 30 = .ok (.iload_n 1, 1) := by decide +kernel
theorem dX3_weightOf_31 : decode cX3_weightOf 31 = .ok (.iconst 1, 1) := by decide +kernel
theorem dX3_weightOf_32 : decode cX3_weightOf 32 = .ok (.invokevirtual 56, 3) := by decide +kernel
theorem dX3_weightOf_35 : decode cX3_weightOf 35 = .ok (.ifCond .eq 7, 3) := by decide +kernel
theorem dX3_weightOf_38 : decode cX3_weightOf 38 = .ok (.iconst 1, 1) := by decide +kernel
theorem dX3_weightOf_39 : decode cX3_weightOf 39 = .ok (.goto 4, 3) := by decide +kernel
theorem dX3_weightOf_42 : decode cX3_weightOf 42 = .ok (.iconst 0, 1) := by decide +kernel
theorem dX3_weightOf_43 : decode cX3_weightOf 43 = .ok (.iadd, 1) := by decide +kernel
theorem dX3_weightOf_44 : decode cX3_weightOf 44 = .ok (.ireturn, 1) := by decide +kernel
theorem dX3_admits_0 : decode cX3_admits 0 = .ok (.aload_n 0, 1) := by decide +kernel
theorem dX3_admits_1 : decode cX3_admits 1 = .ok (.iload_n 1, 1) := by decide +kernel
theorem dX3_admits_2 : decode cX3_admits 2 = .ok (.iload_n 2, 1) := by decide +kernel
theorem dX3_admits_3 : decode cX3_admits 3 = .ok (.invokevirtual 56, 3) := by decide +kernel
theorem dX3_admits_6 : decode cX3_admits 6 = .ok (.ifCond .eq 13, 3) := by decide +kernel
theorem dX3_admits_9 : decode cX3_admits 9 = .ok (.aload_n 0, 1) := by decide +kernel
theorem dX3_admits_10 : decode cX3_admits 10 = .ok (.iload_n 1, 1) := by decide +kernel
theorem dX3_admits_11 : decode cX3_admits 11 = .ok (.iload_n 2, 1) := by decide +kernel
theorem dX3_admits_12 : decode cX3_admits 12 = .ok (.iload_n 3, 1) := by decide +kernel
theorem dX3_admits_13 : decode cX3_admits 13 = .ok (.invokevirtual 107, 3) := by decide +kernel
theorem dX3_admits_16 : decode cX3_admits 16 = .ok (.ifCond .eq 7, 3) := by decide +kernel
theorem dX3_admits_19 : decode cX3_admits 19 = .ok (.iconst 1, 1) := by decide +kernel
theorem dX3_admits_20 : decode cX3_admits 20 = .ok (.goto 4, 3) := by decide +kernel
theorem dX3_admits_23 : decode cX3_admits 23 = .ok (.iconst 0, 1) := by decide +kernel
theorem dX3_admits_24 : decode cX3_admits 24 = .ok (.ireturn, 1) := by decide +kernel
theorem dX3_hasPattern_0 : decode cX3_hasPattern 0 = .ok (.aload_n 0, 1) := by decide +kernel
theorem dX3_hasPattern_1 : decode cX3_hasPattern 1 = .ok (.iload_n 1, 1) := by decide +kernel
theorem dX3_hasPattern_2 : decode cX3_hasPattern 2 = .ok (.iload_n 2, 1) := by decide +kernel
theorem dX3_hasPattern_3 : decode cX3_hasPattern 3 = .ok (.invokevirtual 52, 3) := by decide +kernel
theorem dX3_hasPattern_6 : decode cX3_hasPattern 6 = .ok (.istore_n 3, 1) := by decide +kernel
theorem dX3_hasPattern_7 : decode cX3_hasPattern 7 = .ok (.iload_n 3, 1) := by decide +kernel
theorem dX3_hasPattern_8 : decode cX3_hasPattern 8 = .ok (.iconst (-1), 1) := by decide +kernel
theorem dX3_hasPattern_9 : decode cX3_hasPattern 9 = .ok (.if_icmp .eq 16, 3) := by decide +kernel
theorem dX3_hasPattern_12 : decode cX3_hasPattern 12 = .ok (.aload_n 0, 1) := by decide +kernel
theorem dX3_hasPattern_13 : decode cX3_hasPattern 13 = .ok (.getfield 24, 3) := by decide +kernel
theorem dX3_hasPattern_16 : decode cX3_hasPattern 16 = .ok (.iload_n 3, 1) := by decide +kernel
theorem dX3_hasPattern_17 : decode cX3_hasPattern 17 = .ok (.iaload, 1) := by decide +kernel
theorem dX3_hasPattern_18 : decode cX3_hasPattern 18 = .ok (.ifCond .le 7, 3) := by decide +kernel
theorem dX3_hasPattern_21 : decode cX3_hasPattern 21 = .ok (.iconst 1, 1) := by decide +kernel
theorem dX3_hasPattern_22 : decode cX3_hasPattern 22 = .ok (.goto 4, 3) := by decide +kernel
theorem dX3_hasPattern_25 : decode cX3_hasPattern 25 = .ok (.iconst 0, 1) := by decide +kernel
theorem dX3_hasPattern_26 : decode cX3_hasPattern 26 = .ok (.ireturn, 1) := by decide +kernel
theorem dX3_matches_0 : decode cX3_matches 0 = .ok (.iload_n 3, 1) := by decide +kernel
theorem dX3_matches_1 : decode cX3_matches 1 = .ok (.iconst (-1), 1) := by decide +kernel
theorem dX3_matches_2 : decode cX3_matches 2 = .ok (.if_icmp .eq 22, 3) := by decide +kernel
theorem dX3_matches_5 : decode cX3_matches 5 = .ok (.aload_n 0, 1) := by decide +kernel
theorem dX3_matches_6 : decode cX3_matches 6 = .ok (.iload_n 1, 1) := by decide +kernel
theorem dX3_matches_7 : decode cX3_matches 7 = .ok (.iload_n 2, 1) := by decide +kernel
theorem dX3_matches_8 : decode cX3_matches 8 = .ok (.invokevirtual 110, 3) := by decide +kernel
theorem dX3_matches_11 : decode cX3_matches 11 = .ok (.iload_n 3, 1) := by decide +kernel
theorem dX3_matches_12 : decode cX3_matches 12 = .ok (.lushr, 1) := by decide +kernel
theorem dX3_matches_13 : decode cX3_matches 13 = .ok (.lconst 1, 1) := by decide +kernel
theorem dX3_matches_14 : decode cX3_matches 14 = .ok (.land, 1) := by decide +kernel
theorem dX3_matches_15 : decode cX3_matches 15 = .ok (.lconst 1, 1) := by decide +kernel
theorem dX3_matches_16 : decode cX3_matches 16 = .ok (.lcmp, 1) := by decide +kernel
theorem dX3_matches_17 : decode cX3_matches 17 = .ok (.ifCond .ne 7, 3) := by decide +kernel
theorem dX3_matches_20 : decode cX3_matches 20 = .ok (.iconst 1, 1) := by decide +kernel
theorem dX3_matches_21 : decode cX3_matches 21 = .ok (.goto 4, 3) := by decide +kernel
theorem dX3_matches_24 : decode cX3_matches 24 = .ok (.iconst 0, 1) := by decide +kernel
theorem dX3_matches_25 : decode cX3_matches 25 = .ok (.ireturn, 1) := by decide +kernel
theorem dX3_latestValue_0 : decode cX3_latestValue 0 = .ok (.aload_n 0, 1) := by decide +kernel
theorem dX3_latestValue_1 : decode cX3_latestValue 1 = .ok (.getfield 42, 3) := by decide +kernel
theorem dX3_latestValue_4 : decode cX3_latestValue 4 = .ok (.istore_n 3, 1) := by decide +kernel
theorem dX3_latestValue_5 : decode cX3_latestValue 5 = .ok (.iload_n 3, 1) := by decide +kernel
theorem dX3_latestValue_6 : decode cX3_latestValue 6 = .ok (.iconst 1, 1) := by decide +kernel
theorem dX3_latestValue_7 : decode cX3_latestValue 7 = .ok (.if_icmp .lt 40, 3) := by decide +kernel
theorem dX3_latestValue_10 : decode cX3_latestValue 10 = .ok (.aload_n 0, 1) := by decide +kernel
theorem dX3_latestValue_11 : decode cX3_latestValue 11 = .ok (.getfield 9, 3) := by decide +kernel
theorem dX3_latestValue_14 : decode cX3_latestValue 14 = .ok (.iload_n 3, 1) := by decide +kernel
theorem dX3_latestValue_15 : decode cX3_latestValue 15 = .ok (.iconst 1, 1) := by decide +kernel
theorem dX3_latestValue_16 : decode cX3_latestValue 16 = .ok (.isub, 1) := by decide +kernel
theorem dX3_latestValue_17 : decode cX3_latestValue 17 = .ok (.iaload, 1) := by decide +kernel
theorem dX3_latestValue_18 : decode cX3_latestValue 18 = .ok (.iload_n 1, 1) := by decide +kernel
theorem dX3_latestValue_19 : decode cX3_latestValue 19 = .ok (.if_icmp .ne 22, 3) := by decide +kernel
theorem dX3_latestValue_22 : decode cX3_latestValue 22 = .ok (.aload_n 0, 1) := by decide +kernel
theorem dX3_latestValue_23 : decode cX3_latestValue 23 = .ok (.iload_n 3, 1) := by decide +kernel
theorem dX3_latestValue_24 : decode cX3_latestValue 24 = .ok (.iconst 0, 1) := by decide +kernel
theorem dX3_latestValue_25 : decode cX3_latestValue 25 = .ok (.iload_n 2, 1) := by decide +kernel
theorem dX3_latestValue_26 : decode cX3_latestValue 26 = .ok (.invokevirtual 107, 3) := by decide +kernel
theorem dX3_latestValue_29 : decode cX3_latestValue 29 = .ok (.ifCond .eq 12, 3) := by decide +kernel
theorem dX3_latestValue_32 : decode cX3_latestValue 32 = .ok (.aload_n 0, 1) := by decide +kernel
theorem dX3_latestValue_33 : decode cX3_latestValue 33 = .ok (.getfield 15, 3) := by decide +kernel
theorem dX3_latestValue_36 : decode cX3_latestValue 36 = .ok (.iload_n 3, 1) := by decide +kernel
theorem dX3_latestValue_37 : decode cX3_latestValue 37 = .ok (.iconst 1, 1) := by decide +kernel
theorem dX3_latestValue_38 : decode cX3_latestValue 38 = .ok (.isub, 1) := by decide +kernel
theorem dX3_latestValue_39 : decode cX3_latestValue 39 = .ok (.iaload, 1) := by decide +kernel
theorem dX3_latestValue_40 : decode cX3_latestValue 40 = .ok (.ireturn, 1) := by decide +kernel
theorem dX3_latestValue_41 : decode cX3_latestValue 41 = .ok (.iinc 3 (-1), 3) := by decide +kernel
theorem dX3_latestValue_44 : decode cX3_latestValue 44 = .ok (.goto (-39), 3) := by decide +kernel
theorem dX3_latestValue_47 : decode cX3_latestValue 47 = .ok (.iconst (-1), 1) := by decide +kernel
theorem dX3_latestValue_48 : decode cX3_latestValue 48 = .ok (.ireturn, 1) := by decide +kernel
theorem dX3_idleRow_0 : decode cX3_idleRow 0 = .ok (.iconst 0, 1) := by decide +kernel
theorem dX3_idleRow_1 : decode cX3_idleRow 1 = .ok (.istore_n 2, 1) := by decide +kernel
theorem dX3_idleRow_2 : decode cX3_idleRow 2 = .ok (.iconst 1, 1) := by decide +kernel
theorem dX3_idleRow_3 : decode cX3_idleRow 3 = .ok (.istore_n 3, 1) := by decide +kernel
theorem dX3_idleRow_4 : decode cX3_idleRow 4 = .ok (.iload_n 3, 1) := by decide +kernel
theorem dX3_idleRow_5 : decode cX3_idleRow 5 = .ok (.aload_n 0, 1) := by decide +kernel
theorem dX3_idleRow_6 : decode cX3_idleRow 6 = .ok (.getfield 42, 3) := by decide +kernel
theorem dX3_idleRow_9 : decode cX3_idleRow 9 = .ok (.if_icmp .gt 27, 3) := by decide +kernel
theorem dX3_idleRow_12 : decode cX3_idleRow 12 = .ok (.aload_n 0, 1) := by decide +kernel
theorem dX3_idleRow_13 : decode cX3_idleRow 13 = .ok (.iload_n 3, 1) := by decide +kernel
theorem dX3_idleRow_14 : decode cX3_idleRow 14 = .ok (.invokevirtual 114, 3) := by decide +kernel
theorem dX3_idleRow_17 : decode cX3_idleRow 17 = .ok (.ifCond .eq 13, 3) := by decide +kernel
theorem dX3_idleRow_20 : decode cX3_idleRow 20 = .ok (.iload_n 2, 1) := by decide +kernel
theorem dX3_idleRow_21 : decode cX3_idleRow 21 = .ok (.iload_n 1, 1) := by decide +kernel
theorem dX3_idleRow_22 : decode cX3_idleRow 22 = .ok (.if_icmp .ne 5, 3) := by decide +kernel
theorem dX3_idleRow_25 : decode cX3_idleRow 25 = .ok (.iload_n 3, 1) := by decide +kernel
theorem dX3_idleRow_26 : decode cX3_idleRow 26 = .ok (.ireturn, 1) := by decide +kernel
theorem dX3_idleRow_27 : decode cX3_idleRow 27 = .ok (.iinc 2 1, 3) := by decide +kernel
theorem dX3_idleRow_30 : decode cX3_idleRow 30 = .ok (.iinc 3 1, 3) := by decide +kernel
theorem dX3_idleRow_33 : decode cX3_idleRow 33 = .ok (.goto (-29), 3) := by decide +kernel
theorem dX3_idleRow_36 : decode cX3_idleRow 36 = .ok (.iconst (-1), 1) := by decide +kernel
theorem dX3_idleRow_37 : decode cX3_idleRow 37 = .ok (.ireturn, 1) := by decide +kernel
theorem dX3_isIdle_0 : decode cX3_isIdle 0 = .ok (.iconst 0, 1) := by decide +kernel
theorem dX3_isIdle_1 : decode cX3_isIdle 1 = .ok (.istore_n 2, 1) := by decide +kernel
theorem dX3_isIdle_2 : decode cX3_isIdle 2 = .ok (.iload_n 2, 1) := by decide +kernel
theorem dX3_isIdle_3 : decode cX3_isIdle 3 = .ok (.iconst 3, 1) := by decide +kernel
theorem dX3_isIdle_4 : decode cX3_isIdle 4 = .ok (.if_icmp .ge 31, 3) := by decide +kernel
theorem dX3_isIdle_7 : decode cX3_isIdle 7 = .ok (.aload_n 0, 1) := by decide +kernel
theorem dX3_isIdle_8 : decode cX3_isIdle 8 = .ok (.iload_n 1, 1) := by decide +kernel
theorem dX3_isIdle_9 : decode cX3_isIdle 9 = .ok (.iload_n 2, 1) := by decide +kernel
theorem dX3_isIdle_10 : decode cX3_isIdle 10 = .ok (.invokevirtual 56, 3) := by decide +kernel
theorem dX3_isIdle_13 : decode cX3_isIdle 13 = .ok (.ifCond .eq 16, 3) := by decide +kernel
theorem dX3_isIdle_16 : decode cX3_isIdle 16 = .ok (.aload_n 0, 1) := by decide +kernel
theorem dX3_isIdle_17 : decode cX3_isIdle 17 = .ok (.iload_n 1, 1) := by decide +kernel
theorem dX3_isIdle_18 : decode cX3_isIdle 18 = .ok (.iload_n 2, 1) := by decide +kernel
theorem dX3_isIdle_19 : decode cX3_isIdle 19 = .ok (.invokevirtual 110, 3) := by decide +kernel
theorem dX3_isIdle_22 : decode cX3_isIdle 22 = .ok (.lconst 0, 1) := by decide +kernel
theorem dX3_isIdle_23 : decode cX3_isIdle 23 = .ok (.lcmp, 1) := by decide +kernel
theorem dX3_isIdle_24 : decode cX3_isIdle 24 = .ok (.ifCond .ne 5, 3) := by decide +kernel
theorem dX3_isIdle_27 : decode cX3_isIdle 27 = .ok (.iconst 1, 1) := by decide +kernel
theorem dX3_isIdle_28 : decode cX3_isIdle 28 = .ok (.ireturn, 1) := by decide +kernel
theorem dX3_isIdle_29 : decode cX3_isIdle 29 = .ok (.iinc 2 1, 3) := by decide +kernel
theorem dX3_isIdle_32 : decode cX3_isIdle 32 = .ok (.goto (-30), 3) := by decide +kernel
theorem dX3_isIdle_35 : decode cX3_isIdle 35 = .ok (.iconst 0, 1) := by decide +kernel
theorem dX3_isIdle_36 : decode cX3_isIdle 36 = .ok (.ireturn, 1) := by decide +kernel
theorem dX3_clashingRow_0 : decode cX3_clashingRow 0 = .ok (.iconst 0, 1) := by decide +kernel
theorem dX3_clashingRow_1 : decode cX3_clashingRow 1 = .ok (.istore_n 3, 1) := by decide +kernel
theorem dX3_clashingRow_2 : decode cX3_clashingRow 2 = .ok (.iconst 1, 1) := by decide +kernel
theorem dX3_clashingRow_3 : decode cX3_clashingRow 3 = .ok (.istore 4, 2) := by decide +kernel
theorem dX3_clashingRow_5 : decode cX3_clashingRow 5 = .ok (.iload 4, 2) := by decide +kernel
theorem dX3_clashingRow_7 : decode cX3_clashingRow 7 = .ok (.aload_n 0, 1) := by decide +kernel
theorem dX3_clashingRow_8 : decode cX3_clashingRow 8 = .ok (.getfield 42, 3) := by decide +kernel
theorem dX3_clashingRow_11 : decode cX3_clashingRow 11 = .ok (.if_icmp .gt 61, 3) := by decide +kernel
theorem dX3_clashingRow_14 : decode cX3_clashingRow 14 = .ok (.iload 4, 2) := by decide +kernel
theorem dX3_clashingRow_16 : decode cX3_clashingRow 16 = .ok (.iconst 1, 1) := by decide +kernel
theorem dX3_clashingRow_17 : decode cX3_clashingRow 17 = .ok (.iadd, 1) := by decide +kernel
theorem dX3_clashingRow_18 : decode cX3_clashingRow 18 = .ok (.istore 5, 2) := by decide +kernel
theorem dX3_clashingRow_20 : decode cX3_clashingRow 20 = .ok (.iload 5, 2) := by decide +kernel
theorem dX3_clashingRow_22 : decode cX3_clashingRow 22 = .ok (.aload_n 0, 1) := by decide +kernel
theorem dX3_clashingRow_23 : decode cX3_clashingRow 23 = .ok (.getfield 42, 3) := by decide +kernel
theorem dX3_clashingRow_26 : decode cX3_clashingRow 26 = .ok (.if_icmp .gt 40, 3) := by decide +kernel
theorem dX3_clashingRow_29 : decode cX3_clashingRow 29 = .ok (.aload_n 0, 1) := by decide +kernel
theorem dX3_clashingRow_30 : decode cX3_clashingRow 30 = .ok (.iload 4, 2) := by decide +kernel
theorem dX3_clashingRow_32 : decode cX3_clashingRow 32 = .ok (.iload 5, 2) := by decide +kernel
theorem dX3_clashingRow_34 : decode cX3_clashingRow 34 = .ok (.invokevirtual 118, 3) := by decide +kernel
theorem dX3_clashingRow_37 : decode cX3_clashingRow 37 = .ok (.ifCond .eq 23, 3) := by decide +kernel
theorem dX3_clashingRow_40 : decode cX3_clashingRow 40 = .ok (.iload_n 3, 1) := by decide +kernel
theorem dX3_clashingRow_41 : decode cX3_clashingRow 41 = .ok (.iload_n 1, 1) := by decide +kernel
theorem dX3_clashingRow_42 : decode cX3_clashingRow 42 = .ok (.if_icmp .ne 15, 3) := by decide +kernel
theorem dX3_clashingRow_45 : decode cX3_clashingRow 45 = .ok (.iload_n 2, 1) := by decide +kernel
theorem dX3_clashingRow_46 : decode cX3_clashingRow 46 = .ok (.ifCond .ne 8, 3) := by decide +kernel
theorem dX3_clashingRow_49 : decode cX3_clashingRow 49 = .ok (.iload 4, 2) := by decide +kernel
theorem dX3_clashingRow_51 : decode cX3_clashingRow 51 = .ok (.goto 5, 3) := by decide +kernel
theorem dX3_clashingRow_54 : decode cX3_clashingRow 54 = .ok (.iload 5, 2) := by decide +kernel
theorem dX3_clashingRow_56 : decode cX3_clashingRow 56 = .ok (.ireturn, 1) := by decide +kernel
theorem dX3_clashingRow_57 : decode cX3_clashingRow 57 = .ok (.iinc 3 1, 3) := by decide +kernel
theorem dX3_clashingRow_60 : decode cX3_clashingRow 60 = .ok (.iinc 5 1, 3) := by decide +kernel
theorem dX3_clashingRow_63 : decode cX3_clashingRow 63 = .ok (.goto (-43), 3) := by decide +kernel
theorem dX3_clashingRow_66 : decode cX3_clashingRow 66 = .ok (.iinc 4 1, 3) := by decide +kernel
theorem dX3_clashingRow_69 : decode cX3_clashingRow 69 = .ok (.goto (-64), 3) := by decide +kernel
theorem dX3_clashingRow_72 : decode cX3_clashingRow 72 = .ok (.iconst (-1), 1) := by decide +kernel
theorem dX3_clashingRow_73 : decode cX3_clashingRow 73 = .ok (.ireturn, 1) := by decide +kernel
theorem dX3_haveClash_0 : decode cX3_haveClash 0 = .ok (.aload_n 0, 1) := by decide +kernel
theorem dX3_haveClash_1 : decode cX3_haveClash 1 = .ok (.getfield 9, 3) := by decide +kernel
theorem dX3_haveClash_4 : decode cX3_haveClash 4 = .ok (.iload_n 1, 1) := by decide +kernel
theorem dX3_haveClash_5 : decode cX3_haveClash 5 = .ok (.iconst 1, 1) := by decide +kernel
theorem dX3_haveClash_6 : decode cX3_haveClash 6 = .ok (.isub, 1) := by decide +kernel
theorem dX3_haveClash_7 : decode cX3_haveClash 7 = .ok (.iaload, 1) := by decide +kernel
theorem dX3_haveClash_8 : decode cX3_haveClash 8 = .ok (.istore_n 3, 1) := by decide +kernel
theorem dX3_haveClash_9 : decode cX3_haveClash 9 = .ok (.aload_n 0, 1) := by decide +kernel
theorem dX3_haveClash_10 : decode cX3_haveClash 10 = .ok (.getfield 9, 3) := by decide +kernel
theorem dX3_haveClash_13 : decode cX3_haveClash 13 = .ok (.iload_n 2, 1) := by decide +kernel
theorem dX3_haveClash_14 : decode cX3_haveClash 14 = .ok (.iconst 1, 1) := by decide +kernel
theorem dX3_haveClash_15 : decode cX3_haveClash 15 = .ok (.isub, 1) := by decide +kernel
theorem dX3_haveClash_16 : decode cX3_haveClash 16 = .ok (.iaload, 1) := by decide +kernel
theorem dX3_haveClash_17 : decode cX3_haveClash 17 = .ok (.istore 4, 2) := by decide +kernel
theorem dX3_haveClash_19 : decode cX3_haveClash 19 = .ok (.iload_n 3, 1) := by decide +kernel
theorem dX3_haveClash_20 : decode cX3_haveClash 20 = .ok (.invokestatic 121, 3) := by decide +kernel
theorem dX3_haveClash_23 : decode cX3_haveClash 23 = .ok (.ifCond .eq 15, 3) := by decide +kernel
theorem dX3_haveClash_26 : decode cX3_haveClash 26 = .ok (.iload 4, 2) := by decide +kernel
end
section
theorem dX3_haveClash_28 : decode cX3_haveClash 28 = .ok (.invokestatic 121, 3) := by decide +kernel
theorem dX3_haveClash_31 : decode cX3_haveClash 31 = .ok (.ifCond .eq 7, 3) := by decide +kernel
theorem dX3_haveClash_34 : decode cX3_haveClash 34 = .ok (.iconst 1, 1) := by decide +kernel
theorem dX3_haveClash_35 : decode cX3_haveClash 35 = .ok (.goto 4, 3) := by decide +kernel
theorem dX3_haveClash_38 : decode cX3_haveClash 38 = .ok (.iconst 0, 1) := by decide +kernel
theorem dX3_haveClash_39 : decode cX3_haveClash 39 = .ok (.istore 5, 2) := by decide +kernel
theorem dX3_haveClash_41 : decode cX3_haveClash 41 = .ok (.iload_n 3, 1) := by decide +kernel
theorem dX3_haveClash_42 : decode cX3_haveClash 42 = .ok (.bipush 8, 2) := by decide +kernel
theorem dX3_haveClash_44 : decode cX3_haveClash 44 = .ok (.if_icmp .eq 9, 3) := by decide +kernel
theorem dX3_haveClash_47 : decode cX3_haveClash 47 = .ok (.iload_n 3, 1) := by decide +kernel
theorem dX3_haveClash_48 : decode cX3_haveClash 48 = .ok (.bipush 9, 2) := by decide +kernel
theorem dX3_haveClash_50 : decode cX3_haveClash 50 = .ok (.if_icmp .ne 32, 3) := by decide +kernel
theorem dX3_haveClash_53 : decode cX3_haveClash 53 = .ok (.iload_n 3, 1) := by decide +kernel
theorem dX3_haveClash_54 : decode cX3_haveClash 54 = .ok (.iload 4, 2) := by decide +kernel
theorem dX3_haveClash_56 : decode cX3_haveClash 56 = .ok (.if_icmp .ne 26, 3) := by decide +kernel
theorem dX3_haveClash_59 : decode cX3_haveClash 59 = .ok (.aload_n 0, 1) := by decide +kernel
theorem dX3_haveClash_60 : decode cX3_haveClash 60 = .ok (.getfield 15, 3) := by decide +kernel
theorem dX3_haveClash_63 : decode cX3_haveClash 63 = .ok (.iload_n 1, 1) := by decide +kernel
theorem dX3_haveClash_64 : decode cX3_haveClash 64 = .ok (.iconst 1, 1) := by decide +kernel
theorem dX3_haveClash_65 : decode cX3_haveClash 65 = .ok (.isub, 1) := by decide +kernel
theorem dX3_haveClash_66 : decode cX3_haveClash 66 = .ok (.iaload, 1) := by decide +kernel
theorem dX3_haveClash_67 : decode cX3_haveClash 67 = .ok (.aload_n 0, 1) := by decide +kernel
theorem dX3_haveClash_68 : decode cX3_haveClash 68 = .ok (.getfield 15, 3) := by decide +kernel
theorem dX3_haveClash_71 : decode cX3_haveClash 71 = .ok (.iload_n 2, 1) := by decide +kernel
theorem dX3_haveClash_72 : decode cX3_haveClash 72 = .ok (.iconst 1, 1) := by decide +kernel
theorem dX3_haveClash_73 : decode cX3_haveClash 73 = .ok (.isub, 1) := by decide +kernel
theorem dX3_haveClash_74 : decode cX3_haveClash 74 = .ok (.iaload, 1) := by decide +kernel
theorem dX3_haveClash_75 : decode cX3_haveClash 75 = .ok (.if_icmp .eq 7, 3) := by decide +kernel
theorem dX3_haveClash_78 : decode cX3_haveClash 78 = .ok (.iconst 1, 1) := by decide +kernel
theorem dX3_haveClash_79 : decode cX3_haveClash 79 = .ok (.goto 4, 3) := by decide +kernel
theorem dX3_haveClash_82 : decode cX3_haveClash 82 = .ok (.iconst 0, 1) := by decide +kernel
theorem dX3_haveClash_83 : decode cX3_haveClash 83 = .ok (.istore 6, 2) := by decide +kernel
theorem dX3_haveClash_85 : decode cX3_haveClash 85 = .ok (.iload 5, 2) := by decide +kernel
theorem dX3_haveClash_87 : decode cX3_haveClash 87 = .ok (.ifCond .ne 8, 3) := by decide +kernel
theorem dX3_haveClash_90 : decode cX3_haveClash 90 = .ok (.iload 6, 2) := by decide +kernel
theorem dX3_haveClash_92 : decode cX3_haveClash 92 = .ok (.ifCond .eq 25, 3) := by decide +kernel
theorem dX3_haveClash_95 : decode cX3_haveClash 95 = .ok (.aload_n 0, 1) := by decide +kernel
theorem dX3_haveClash_96 : decode cX3_haveClash 96 = .ok (.iload_n 1, 1) := by decide +kernel
theorem dX3_haveClash_97 : decode cX3_haveClash 97 = .ok (.iconst 0, 1) := by decide +kernel
theorem dX3_haveClash_98 : decode cX3_haveClash 98 = .ok (.invokevirtual 110, 3) := by decide +kernel
theorem dX3_haveClash_101 : decode cX3_haveClash 101 = .ok (.aload_n 0, 1) := by decide +kernel
theorem dX3_haveClash_102 : decode cX3_haveClash 102 = .ok (.iload_n 2, 1) := by decide +kernel
theorem dX3_haveClash_103 : decode cX3_haveClash 103 = .ok (.iconst 0, 1) := by decide +kernel
theorem dX3_haveClash_104 : decode cX3_haveClash 104 = .ok (.invokevirtual 110, 3) := by decide +kernel
theorem dX3_haveClash_107 : decode cX3_haveClash 107 = .ok (.land, 1) := by decide +kernel
theorem dX3_haveClash_108 : decode cX3_haveClash 108 = .ok (.lconst 0, 1) := by decide +kernel
theorem dX3_haveClash_109 : decode cX3_haveClash 109 = .ok (.lcmp, 1) := by decide +kernel
theorem dX3_haveClash_110 : decode cX3_haveClash 110 = .ok (.ifCond .eq 7, 3) := by decide +kernel
theorem dX3_haveClash_113 : decode cX3_haveClash 113 = .ok (.iconst 1, 1) := by decide +kernel
theorem dX3_haveClash_114 : decode cX3_haveClash 114 = .ok (.goto 4, 3) := by decide +kernel
theorem dX3_haveClash_117 : decode cX3_haveClash 117 = .ok (.iconst 0, 1) := by decide +kernel
theorem dX3_haveClash_118 : decode cX3_haveClash 118 = .ok (.ireturn, 1) := by decide +kernel
theorem dX4_init_0 : decode cX4_init 0 = .ok (.aload_n 0, 1) := by decide +kernel
theorem dX4_init_1 : decode cX4_init 1 = .ok (.invokespecial 3, 3) := by decide +kernel
theorem dX4_init_4 : decode cX4_init 4 = .ok (.aload_n 0, 1) := by decide +kernel
theorem dX4_init_5 : decode cX4_init 5 = .ok (.sipush 1200, 3) := by decide +kernel
theorem dX4_init_8 : decode cX4_init 8 = .ok (.newarray .char, 2) := by decide +kernel
theorem dX4_init_10 : decode cX4_init 10 = .ok (.putfield 9, 3) := by decide +kernel
theorem dX4_init_13 : decode cX4_init 13 = .ok (.aload_n 0, 1) := by decide +kernel
theorem dX4_init_14 : decode cX4_init 14 = .ok (.iconst 0, 1) := by decide +kernel
theorem dX4_init_15 : decode cX4_init 15 = .ok (.putfield 15, 3) := by decide +kernel
theorem dX4_init_18 : decode cX4_init 18 = .ok (.return_, 1) := by decide +kernel
theorem dX4_takes_0 : decode cX4_takes 0 = .ok (.iload_n 0, 1) := by decide +kernel
theorem dX4_takes_1 : decode cX4_takes 1 = .ok (.bipush 32, 2) := by decide +kernel
theorem dX4_takes_3 : decode cX4_takes 3 = .ok (.if_icmp .lt 9, 3) := by decide +kernel
theorem dX4_takes_6 : decode cX4_takes 6 = .ok (.iload_n 0, 1) := by decide +kernel
theorem dX4_takes_7 : decode cX4_takes 7 = .ok (.bipush 126, 2) := by decide +kernel
theorem dX4_takes_9 : decode cX4_takes 9 = .ok (.if_icmp .le 9, 3) := by decide +kernel
theorem dX4_takes_12 : decode cX4_takes 12 = .ok (.iload_n 0, 1) := by decide +kernel
theorem dX4_takes_13 : decode cX4_takes 13 = .ok (.bipush 10, 2) := by decide +kernel
theorem dX4_takes_15 : decode cX4_takes 15 = .ok (.if_icmp .ne 7, 3) := by decide +kernel
theorem dX4_takes_18 : decode cX4_takes 18 = .ok (.iconst 1, 1) := by decide +kernel
theorem dX4_takes_19 : decode cX4_takes 19 = .ok (.goto 4, 3) := by decide +kernel
theorem dX4_takes_22 : decode cX4_takes 22 = .ok (.iconst 0, 1) := by decide +kernel
theorem dX4_takes_23 : decode cX4_takes 23 = .ok (.ireturn, 1) := by decide +kernel
theorem dX4_room_0 : decode cX4_room 0 = .ok (.sipush 1200, 3) := by decide +kernel
theorem dX4_room_3 : decode cX4_room 3 = .ok (.aload_n 0, 1) := by decide +kernel
theorem dX4_room_4 : decode cX4_room 4 = .ok (.getfield 15, 3) := by decide +kernel
theorem dX4_room_7 : decode cX4_room 7 = .ok (.isub, 1) := by decide +kernel
theorem dX4_room_8 : decode cX4_room 8 = .ok (.ireturn, 1) := by decide +kernel
theorem dX4_append_0 : decode cX4_append 0 = .ok (.aload_n 0, 1) := by decide +kernel
theorem dX4_append_1 : decode cX4_append 1 = .ok (.getfield 15, 3) := by decide +kernel
theorem dX4_append_4 : decode cX4_append 4 = .ok (.aload_n 0, 1) := by decide +kernel
theorem dX4_append_5 : decode cX4_append 5 = .ok (.getfield 9, 3) := by decide +kernel
theorem dX4_append_8 : decode cX4_append 8 = .ok (.arraylength, 1) := by decide +kernel
theorem dX4_append_9 : decode cX4_append 9 = .ok (.if_icmp .ge 24, 3) := by decide +kernel
theorem dX4_append_12 : decode cX4_append 12 = .ok (.aload_n 0, 1) := by decide +kernel
theorem dX4_append_13 : decode cX4_append 13 = .ok (.getfield 9, 3) := by decide +kernel
theorem dX4_append_16 : decode cX4_append 16 = .ok (.aload_n 0, 1) := by decide +kernel
theorem dX4_append_17 : decode cX4_append 17 = .ok (.getfield 15, 3) := by decide +kernel
theorem dX4_append_20 : decode cX4_append 20 = .ok (.iload_n 1, 1) := by decide +kernel
theorem dX4_append_21 : decode cX4_append 21 = .ok (.i2c, 1) := by decide +kernel
theorem dX4_append_22 : decode cX4_append 22 = .ok (.castore, 1) := by decide +kernel
theorem dX4_append_23 : decode cX4_append 23 = .ok (.aload_n 0, 1) := by decide +kernel
theorem dX4_append_24 : decode cX4_append 24 = .ok (.dup, 1) := by decide +kernel
theorem dX4_append_25 : decode cX4_append 25 = .ok (.getfield 15, 3) := by decide +kernel
theorem dX4_append_28 : decode cX4_append 28 = .ok (.iconst 1, 1) := by decide +kernel
theorem dX4_append_29 : decode cX4_append 29 = .ok (.iadd, 1) := by decide +kernel
theorem dX4_append_30 : decode cX4_append 30 = .ok (.putfield 15, 3) := by decide +kernel
theorem dX4_append_33 : decode cX4_append 33 = .ok (.return_, 1) := by decide +kernel
theorem dX4_wipe_0 : decode cX4_wipe 0 = .ok (.aload_n 0, 1) := by decide +kernel
theorem dX4_wipe_1 : decode cX4_wipe 1 = .ok (.iconst 0, 1) := by decide +kernel
theorem dX4_wipe_2 : decode cX4_wipe 2 = .ok (.putfield 15, 3) := by decide +kernel
theorem dX4_wipe_5 : decode cX4_wipe 5 = .ok (.return_, 1) := by decide +kernel
theorem dX4_at_0 : decode cX4_at 0 = .ok (.iload_n 1, 1) := by decide +kernel
theorem dX4_at_1 : decode cX4_at 1 = .ok (.ifCond .lt 20, 3) := by decide +kernel
theorem dX4_at_4 : decode cX4_at 4 = .ok (.iload_n 1, 1) := by decide +kernel
theorem dX4_at_5 : decode cX4_at 5 = .ok (.aload_n 0, 1) := by decide +kernel
theorem dX4_at_6 : decode cX4_at 6 = .ok (.getfield 15, 3) := by decide +kernel
theorem dX4_at_9 : decode cX4_at 9 = .ok (.if_icmp .ge 12, 3) := by decide +kernel
theorem dX4_at_12 : decode cX4_at 12 = .ok (.aload_n 0, 1) := by decide +kernel
theorem dX4_at_13 : decode cX4_at 13 = .ok (.getfield 9, 3) := by decide +kernel
theorem dX4_at_16 : decode cX4_at 16 = .ok (.iload_n 1, 1) := by decide +kernel
theorem dX4_at_17 : decode cX4_at 17 = .ok (.caload, 1) := by decide +kernel
theorem dX4_at_18 : decode cX4_at 18 = .ok (.goto 4, 3) := by decide +kernel
theorem dX4_at_21 : decode cX4_at 21 = .ok (.iconst 0, 1) := by decide +kernel
theorem dX4_at_22 : decode cX4_at 22 = .ok (.ireturn, 1) := by decide +kernel
theorem dX5_init_0 : decode cX5_init 0 = .ok (.aload_n 0, 1) := by decide +kernel
theorem dX5_init_1 : decode cX5_init 1 = .ok (.invokespecial 3, 3) := by decide +kernel
theorem dX5_init_4 : decode cX5_init 4 = .ok (.aload_n 0, 1) := by decide +kernel
theorem dX5_init_5 : decode cX5_init 5 = .ok (.new 9, 3) := by decide +kernel
theorem dX5_init_8 : decode cX5_init 8 = .ok (.dup, 1) := by decide +kernel
theorem dX5_init_9 : decode cX5_init 9 = .ok (.invokespecial 11, 3) := by decide +kernel
theorem dX5_init_12 : decode cX5_init 12 = .ok (.putfield 12, 3) := by decide +kernel
theorem dX5_init_15 : decode cX5_init 15 = .ok (.aload_n 0, 1) := by decide +kernel
theorem dX5_init_16 : decode cX5_init 16 = .ok (.aload_n 0, 1) := by decide +kernel
theorem dX5_init_17 : decode cX5_init 17 = .ok (.getfield 12, 3) := by decide +kernel
theorem dX5_init_20 : decode cX5_init 20 = .ok (.getfield 16, 3) := by decide +kernel
theorem dX5_init_23 : decode cX5_init 23 = .ok (.putfield 20, 3) := by decide +kernel
theorem dX5_init_26 : decode cX5_init 26 = .ok (.aload_n 0, 1) := by decide +kernel
theorem dX5_init_27 : decode cX5_init 27 = .ok (.new 21, 3) := by decide +kernel
theorem dX5_init_30 : decode cX5_init 30 = .ok (.dup, 1) := by decide +kernel
theorem dX5_init_31 : decode cX5_init 31 = .ok (.invokespecial 23, 3) := by decide +kernel
theorem dX5_init_34 : decode cX5_init 34 = .ok (.putfield 24, 3) := by decide +kernel
theorem dX5_init_37 : decode cX5_init 37 = .ok (.aload_n 0, 1) := by decide +kernel
theorem dX5_init_38 : decode cX5_init 38 = .ok (.new 28, 3) := by decide +kernel
theorem dX5_init_41 : decode cX5_init 41 = .ok (.dup, 1) := by decide +kernel
theorem dX5_init_42 : decode cX5_init 42 = .ok (.invokespecial 30, 3) := by decide +kernel
theorem dX5_init_45 : decode cX5_init 45 = .ok (.putfield 31, 3) := by decide +kernel
theorem dX5_init_48 : decode cX5_init 48 = .ok (.return_, 1) := by decide +kernel
theorem dX5_unit_0 : decode cX5_unit 0 = .ok (.iload_n 1, 1) := by decide +kernel
theorem dX5_unit_1 : decode cX5_unit 1 = .ok (.invokestatic 35, 3) := by decide +kernel
theorem dX5_unit_4 : decode cX5_unit 4 = .ok (.ifCond .eq 14, 3) := by decide +kernel
theorem dX5_unit_7 : decode cX5_unit 7 = .ok (.aload_n 0, 1) := by decide +kernel
theorem dX5_unit_8 : decode cX5_unit 8 = .ok (.getfield 20, 3) := by decide +kernel
theorem dX5_unit_11 : decode cX5_unit 11 = .ok (.invokevirtual 41, 3) := by decide +kernel
theorem dX5_unit_14 : decode cX5_unit 14 = .ok (.iconst 1, 1) := by decide +kernel
theorem dX5_unit_15 : decode cX5_unit 15 = .ok (.if_icmp .ge 5, 3) := by decide +kernel
theorem dX5_unit_18 : decode cX5_unit 18 = .ok (.iconst 0, 1) := by decide +kernel
theorem dX5_unit_19 : decode cX5_unit 19 = .ok (.ireturn, 1) := by decide +kernel
theorem dX5_unit_20 : decode cX5_unit 20 = .ok (.aload_n 0, 1) := by decide +kernel
theorem dX5_unit_21 : decode cX5_unit 21 = .ok (.getfield 20, 3) := by decide +kernel
theorem dX5_unit_24 : decode cX5_unit 24 = .ok (.iload_n 1, 1) := by decide +kernel
theorem dX5_unit_25 : decode cX5_unit 25 = .ok (.invokevirtual 45, 3) := by decide +kernel
theorem dX5_unit_28 : decode cX5_unit 28 = .ok (.iconst 1, 1) := by decide +kernel
theorem dX5_unit_29 : decode cX5_unit 29 = .ok (.ireturn, 1) := by decide +kernel
theorem dX5_units_0 : decode cX5_units 0 = .ok (.iconst 0, 1) := by decide +kernel
theorem dX5_units_1 : decode cX5_units 1 = .ok (.istore_n 2, 1) := by decide +kernel
theorem dX5_units_2 : decode cX5_units 2 = .ok (.bipush 24, 2) := by decide +kernel
theorem dX5_units_4 : decode cX5_units 4 = .ok (.istore_n 3, 1) := by decide +kernel
theorem dX5_units_5 : decode cX5_units 5 = .ok (.iload_n 3, 1) := by decide +kernel
theorem dX5_units_6 : decode cX5_units 6 = .ok (.ifCond .lt 36, 3) := by decide +kernel
theorem dX5_units_9 : decode cX5_units 9 = .ok (.iload_n 1, 1) := by decide +kernel
theorem dX5_units_10 : decode cX5_units 10 = .ok (.iload_n 3, 1) := by decide +kernel
theorem dX5_units_11 : decode cX5_units 11 = .ok (.iushr, 1) := by decide +kernel
theorem dX5_units_12 : decode cX5_units 12 = .ok (.sipush 255, 3) := by decide +kernel
theorem dX5_units_15 : decode cX5_units 15 = .ok (.iand, 1) := by decide +kernel
theorem dX5_units_16 : decode cX5_units 16 = .ok (.istore 4, 2) := by decide +kernel
theorem dX5_units_18 : decode cX5_units 18 = .ok (.iload 4, 2) := by decide +kernel
theorem dX5_units_20 : decode cX5_units 20 = .ok (.ifCond .eq 16, 3) := by decide +kernel
theorem dX5_units_23 : decode cX5_units 23 = .ok (.iload 4, 2) := by decide +kernel
theorem dX5_units_25 : decode cX5_units 25 = .ok (.invokestatic 35, 3) := by decide +kernel
theorem dX5_units_28 : decode cX5_units 28 = .ok (.ifCond .ne 5, 3) := by decide +kernel
theorem dX5_units_31 : decode cX5_units 31 = .ok (.iconst 0, 1) := by decide +kernel
theorem dX5_units_32 : decode cX5_units 32 = .ok (.ireturn, 1) := by decide +kernel
theorem dX5_units_33 : decode cX5_units 33 = .ok (.iinc 2 1, 3) := by decide +kernel
theorem dX5_units_36 : decode cX5_units 36 = .ok (.iinc 3 (-8), 3) := by decide +kernel
theorem dX5_units_39 : decode cX5_units 39 = .ok (.goto (-34), 3) := by decide +kernel
theorem dX5_units_42 : decode cX5_units 42 = .ok (.aload_n 0, 1) := by decide +kernel
theorem dX5_units_43 : decode cX5_units 43 = .ok (.getfield 20, 3) := by decide +kernel
theorem dX5_units_46 : decode cX5_units 46 = .ok (.invokevirtual 41, 3) := by decide +kernel
theorem dX5_units_49 : decode cX5_units 49 = .ok (.iload_n 2, 1) := by decide +kernel
theorem dX5_units_50 : decode cX5_units 50 = .ok (.if_icmp .ge 5, 3) := by decide +kernel
theorem dX5_units_53 : decode cX5_units 53 = .ok (.iconst 0, 1) := by decide +kernel
theorem dX5_units_54 : decode cX5_units 54 = .ok (.ireturn, 1) := by decide +kernel
theorem dX5_units_55 : decode cX5_units 55 = .ok (.bipush 24, 2) := by decide +kernel
theorem dX5_units_57 : decode cX5_units 57 = .ok (.istore_n 3, 1) := by decide +kernel
theorem dX5_units_58 : decode cX5_units 58 = .ok (.iload_n 3, 1) := by decide +kernel
theorem dX5_units_59 : decode cX5_units 59 = .ok (.ifCond .lt 32, 3) := by decide +kernel
theorem dX5_units_62 : decode cX5_units 62 = .ok (.iload_n 1, 1) := by decide +kernel
theorem dX5_units_63 : decode cX5_units 63 = .ok (.iload_n 3, 1) := by decide +kernel
theorem dX5_units_64 : decode cX5_units 64 = .ok (.iushr, 1) := by decide +kernel
theorem dX5_units_65 : decode cX5_units 65 = .ok (.sipush 255, 3) := by decide +kernel
theorem dX5_units_68 : decode cX5_units 68 = .ok (.iand, 1) := by decide +kernel
theorem dX5_units_69 : decode cX5_units 69 = .ok (.istore 4, 2) := by decide +kernel
theorem dX5_units_71 : decode cX5_units 71 = .ok (.iload 4, 2) := by decide +kernel
theorem dX5_units_73 : decode cX5_units 73 = .ok (.ifCond .eq 12, 3) := by decide +kernel
theorem dX5_units_76 : decode cX5_units 76 = .ok (.aload_n 0, 1) := by decide +kernel
theorem dX5_units_77 : decode cX5_units 77 = .ok (.getfield 20, 3) := by decide +kernel
theorem dX5_units_80 : decode cX5_units 80 = .ok (.iload 4, 2) := by decide +kernel
theorem dX5_units_82 : decode cX5_units 82 = .ok (.invokevirtual 45, 3) := by decide +kernel
theorem dX5_units_85 : decode cX5_units 85 = .ok (.iinc 3 (-8), 3) := by decide +kernel
theorem dX5_units_88 : decode cX5_units 88 = .ok (.goto (-30), 3) := by decide +kernel
theorem dX5_units_91 : decode cX5_units 91 = .ok (.iconst 1, 1) := by decide +kernel
theorem dX5_units_92 : decode cX5_units 92 = .ok (.ireturn, 1) := by decide +kernel
theorem dX5_name_0 : decode cX5_name 0 = .ok (.iload_n 1, 1) := by decide +kernel
theorem dX5_name_1 : decode cX5_name 1 = .ok (.invokestatic 49, 3) := by decide +kernel
theorem dX5_name_4 : decode cX5_name 4 = .ok (.ifCond .ne 13, 3) := by decide +kernel
theorem dX5_name_7 : decode cX5_name 7 = .ok (.new 52, 3) := by decide +kernel
theorem dX5_name_10 : decode cX5_name 10 = .ok (.dup, 1) := by decide +kernel
theorem dX5_name_11 : decode cX5_name 11 = .ok (.ldc 54, 2) := by decide +kernel
theorem dX5_name_13 : decode cX5_name 13 = .ok (.invokespecial 56, 3) := by decide +kernel
theorem dX5_name_16 : decode cX5_name 16 = .ok (.athrow, 1) := by decide +kernel
theorem dX5_name_17 : decode cX5_name 17 = .ok (.iload_n 2, 1) := by decide +kernel
theorem dX5_name_18 : decode cX5_name 18 = .ok (.invokestatic 59, 3) := by decide +kernel
theorem dX5_name_21 : decode cX5_name 21 = .ok (.ifCond .eq 15, 3) := by decide +kernel
theorem dX5_name_24 : decode cX5_name 24 = .ok (.aload_n 0, 1) := by decide +kernel
theorem dX5_name_25 : decode cX5_name 25 = .ok (.getfield 24, 3) := by decide +kernel
theorem dX5_name_28 : decode cX5_name 28 = .ok (.iload_n 1, 1) := by decide +kernel
theorem dX5_name_29 : decode cX5_name 29 = .ok (.iload_n 2, 1) := by decide +kernel
theorem dX5_name_30 : decode cX5_name 30 = .ok (.invokevirtual 62, 3) := by decide +kernel
theorem dX5_name_33 : decode cX5_name 33 = .ok (.ifCond .ne 5, 3) := by decide +kernel
theorem dX5_name_36 : decode cX5_name 36 = .ok (.iconst 0, 1) := by decide +kernel
theorem dX5_name_37 : decode cX5_name 37 = .ok (.ireturn, 1) := by decide +kernel
theorem dX5_name_38 : decode cX5_name 38 = .ok (.aload_n 0, 1) := by decide +kernel
theorem dX5_name_39 : decode cX5_name 39 = .ok (.getfield 31, 3) := by decide +kernel
theorem dX5_name_42 : decode cX5_name 42 = .ok (.aload_n 0, 1) := by decide +kernel
theorem dX5_name_43 : decode cX5_name 43 = .ok (.getfield 24, 3) := by decide +kernel
theorem dX5_name_46 : decode cX5_name 46 = .ok (.iload_n 1, 1) := by decide +kernel
theorem dX5_name_47 : decode cX5_name 47 = .ok (.invokevirtual 66, 3) := by decide +kernel
theorem dX5_name_50 : decode cX5_name 50 = .ok (.iconst 1, 1) := by decide +kernel
theorem dX5_name_51 : decode cX5_name 51 = .ok (.ireturn, 1) := by decide +kernel
theorem dX5_read_0 : decode cX5_read 0 = .ok (.aload_n 0, 1) := by decide +kernel
theorem dX5_read_1 : decode cX5_read 1 = .ok (.getfield 12, 3) := by decide +kernel
theorem dX5_read_4 : decode cX5_read 4 = .ok (.invokevirtual 70, 3) := by decide +kernel
theorem dX5_read_7 : decode cX5_read 7 = .ok (.istore_n 1, 1) := by decide +kernel
theorem dX5_read_8 : decode cX5_read 8 = .ok (.aload_n 0, 1) := by decide +kernel
theorem dX5_read_9 : decode cX5_read 9 = .ok (.getfield 20, 3) := by decide +kernel
theorem dX5_read_12 : decode cX5_read 12 = .ok (.invokevirtual 73, 3) := by decide +kernel
theorem dX5_read_15 : decode cX5_read 15 = .ok (.iload_n 1, 1) := by decide +kernel
theorem dX5_read_16 : decode cX5_read 16 = .ok (.iconst (-1), 1) := by decide +kernel
theorem dX5_read_17 : decode cX5_read 17 = .ok (.if_icmp .eq 7, 3) := by decide +kernel
theorem dX5_read_20 : decode cX5_read 20 = .ok (.iconst (-1), 1) := by decide +kernel
theorem dX5_read_21 : decode cX5_read 21 = .ok (.iload_n 1, 1) := by decide +kernel
theorem dX5_read_22 : decode cX5_read 22 = .ok (.isub, 1) := by decide +kernel
theorem dX5_read_23 : decode cX5_read 23 = .ok (.ireturn, 1) := by decide +kernel
theorem dX5_read_24 : decode cX5_read 24 = .ok (.aload_n 0, 1) := by decide +kernel
theorem dX5_read_25 : decode cX5_read 25 = .ok (.aload_n 0, 1) := by decide +kernel
theorem dX5_read_26 : decode cX5_read 26 = .ok (.getfield 12, 3) := by decide +kernel
theorem dX5_read_29 : decode cX5_read 29 = .ok (.aload_n 0, 1) := by decide +kernel
theorem dX5_read_30 : decode cX5_read 30 = .ok (.getfield 31, 3) := by decide +kernel
theorem dX5_read_33 : decode cX5_read 33 = .ok (.invokevirtual 76, 3) := by decide +kernel
theorem dX5_read_36 : decode cX5_read 36 = .ok (.putfield 31, 3) := by decide +kernel
theorem dX5_read_39 : decode cX5_read 39 = .ok (.iconst 0, 1) := by decide +kernel
theorem dX5_read_40 : decode cX5_read 40 = .ok (.istore_n 2, 1) := by decide +kernel
theorem dX5_read_41 : decode cX5_read 41 = .ok (.iload_n 2, 1) := by decide +kernel
theorem dX5_read_42 : decode cX5_read 42 = .ok (.bipush 40, 2) := by decide +kernel
theorem dX5_read_44 : decode cX5_read 44 = .ok (.if_icmp .ge 21, 3) := by decide +kernel
theorem dX5_read_47 : decode cX5_read 47 = .ok (.aload_n 0, 1) := by decide +kernel
theorem dX5_read_48 : decode cX5_read 48 = .ok (.getfield 31, 3) := by decide +kernel
theorem dX5_read_51 : decode cX5_read 51 = .ok (.aload_n 0, 1) := by decide +kernel
theorem dX5_read_52 : decode cX5_read 52 = .ok (.getfield 24, 3) := by decide +kernel
theorem dX5_read_55 : decode cX5_read 55 = .ok (.iload_n 2, 1) := by decide +kernel
theorem dX5_read_56 : decode cX5_read 56 = .ok (.invokevirtual 66, 3) := by decide +kernel
theorem dX5_read_59 : decode cX5_read 59 = .ok (.iinc 2 1, 3) := by decide +kernel
theorem dX5_read_62 : decode cX5_read 62 = .ok (.goto (-21), 3) := by decide +kernel
theorem dX5_read_65 : decode cX5_read 65 = .ok (.aload_n 0, 1) := by decide +kernel
theorem dX5_read_66 : decode cX5_read 66 = .ok (.getfield 31, 3) := by decide +kernel
theorem dX5_read_69 : decode cX5_read 69 = .ok (.getfield 80, 3) := by decide +kernel
theorem dX5_read_72 : decode cX5_read 72 = .ok (.ireturn, 1) := by decide +kernel
theorem dX5_clock_0 : decode cX5_clock 0 = .ok (.aload_n 0, 1) := by decide +kernel
theorem dX5_clock_1 : decode cX5_clock 1 = .ok (.getfield 31, 3) := by decide +kernel
theorem dX5_clock_4 : decode cX5_clock 4 = .ok (.getfield 84, 3) := by decide +kernel
theorem dX5_clock_7 : decode cX5_clock 7 = .ok (.iload_n 1, 1) := by decide +kernel
theorem dX5_clock_8 : decode cX5_clock 8 = .ok (.invokevirtual 88, 3) := by decide +kernel
theorem dX5_clock_11 : decode cX5_clock 11 = .ok (.ifCond .eq 13, 3) := by decide +kernel
theorem dX5_clock_14 : decode cX5_clock 14 = .ok (.iload_n 2, 1) := by decide +kernel
theorem dX5_clock_15 : decode cX5_clock 15 = .ok (.ifCond .lt 9, 3) := by decide +kernel
theorem dX5_clock_18 : decode cX5_clock 18 = .ok (.iload_n 2, 1) := by decide +kernel
theorem dX5_clock_19 : decode cX5_clock 19 = .ok (.bipush 6, 2) := by decide +kernel
theorem dX5_clock_21 : decode cX5_clock 21 = .ok (.if_icmp .le 13, 3) := by decide +kernel
theorem dX5_clock_24 : decode cX5_clock 24 = .ok (.new 52, 3) := by decide +kernel
theorem dX5_clock_27 : decode cX5_clock 27 = .ok (.dup, 1) := by decide +kernel
theorem dX5_clock_28 : decode cX5_clock 28 = .ok (.ldc 91, 2) := by decide +kernel
theorem dX5_clock_30 : decode cX5_clock 30 = .ok (.invokespecial 56, 3) := by decide +kernel
theorem dX5_clock_33 : decode cX5_clock 33 = .ok (.athrow, 1) := by decide +kernel
theorem dX5_clock_34 : decode cX5_clock 34 = .ok (.iload_n 2, 1) := by decide +kernel
theorem dX5_clock_35 : decode cX5_clock 35 = .ok (.bipush 6, 2) := by decide +kernel
theorem dX5_clock_37 : decode cX5_clock 37 = .ok (.if_icmp .ne 27, 3) := by decide +kernel
theorem dX5_clock_40 : decode cX5_clock 40 = .ok (.aload_n 0, 1) := by decide +kernel
theorem dX5_clock_41 : decode cX5_clock 41 = .ok (.getfield 31, 3) := by decide +kernel
theorem dX5_clock_44 : decode cX5_clock 44 = .ok (.aload_n 0, 1) := by decide +kernel
theorem dX5_clock_45 : decode cX5_clock 45 = .ok (.getfield 31, 3) := by decide +kernel
theorem dX5_clock_48 : decode cX5_clock 48 = .ok (.getfield 84, 3) := by decide +kernel
theorem dX5_clock_51 : decode cX5_clock 51 = .ok (.getfield 93, 3) := by decide +kernel
theorem dX5_clock_54 : decode cX5_clock 54 = .ok (.iload_n 1, 1) := by decide +kernel
theorem dX5_clock_55 : decode cX5_clock 55 = .ok (.iaload, 1) := by decide +kernel
theorem dX5_clock_56 : decode cX5_clock 56 = .ok (.iconst 0, 1) := by decide +kernel
theorem dX5_clock_57 : decode cX5_clock 57 = .ok (.invokevirtual 97, 3) := by decide +kernel
theorem dX5_clock_60 : decode cX5_clock 60 = .ok (.invokestatic 101, 3) := by decide +kernel
theorem dX5_clock_63 : decode cX5_clock 63 = .ok (.ireturn, 1) := by decide +kernel
theorem dX5_clock_64 : decode cX5_clock 64 = .ok (.aload_n 0, 1) := by decide +kernel
theorem dX5_clock_65 : decode cX5_clock 65 = .ok (.getfield 31, 3) := by decide +kernel
theorem dX5_clock_68 : decode cX5_clock 68 = .ok (.getfield 84, 3) := by decide +kernel
theorem dX5_clock_71 : decode cX5_clock 71 = .ok (.iload_n 1, 1) := by decide +kernel
theorem dX5_clock_72 : decode cX5_clock 72 = .ok (.iload_n 2, 1) := by decide +kernel
theorem dX5_clock_73 : decode cX5_clock 73 = .ok (.invokevirtual 107, 3) := by decide +kernel
theorem dX5_clock_76 : decode cX5_clock 76 = .ok (.ireturn, 1) := by decide +kernel
theorem dX5_edge_0 : decode cX5_edge 0 = .ok (.aload_n 0, 1) := by decide +kernel
theorem dX5_edge_1 : decode cX5_edge 1 = .ok (.getfield 31, 3) := by decide +kernel
theorem dX5_edge_4 : decode cX5_edge 4 = .ok (.getfield 84, 3) := by decide +kernel
theorem dX5_edge_7 : decode cX5_edge 7 = .ok (.iload_n 1, 1) := by decide +kernel
theorem dX5_edge_8 : decode cX5_edge 8 = .ok (.invokevirtual 88, 3) := by decide +kernel
theorem dX5_edge_11 : decode cX5_edge 11 = .ok (.ifCond .eq 23, 3) := by decide +kernel
theorem dX5_edge_14 : decode cX5_edge 14 = .ok (.iload_n 2, 1) := by decide +kernel
theorem dX5_edge_15 : decode cX5_edge 15 = .ok (.ifCond .lt 19, 3) := by decide +kernel
theorem dX5_edge_18 : decode cX5_edge 18 = .ok (.iload_n 2, 1) := by decide +kernel
theorem dX5_edge_19 : decode cX5_edge 19 = .ok (.sipush 1000, 3) := by decide +kernel
theorem dX5_edge_22 : decode cX5_edge 22 = .ok (.if_icmp .gt 12, 3) := by decide +kernel
theorem dX5_edge_25 : decode cX5_edge 25 = .ok (.iload_n 3, 1) := by decide +kernel
theorem dX5_edge_26 : decode cX5_edge 26 = .ok (.ifCond .lt 8, 3) := by decide +kernel
theorem dX5_edge_29 : decode cX5_edge 29 = .ok (.iload_n 3, 1) := by decide +kernel
theorem dX5_edge_30 : decode cX5_edge 30 = .ok (.iconst 2, 1) := by decide +kernel
theorem dX5_edge_31 : decode cX5_edge 31 = .ok (.if_icmp .le 13, 3) := by decide +kernel
theorem dX5_edge_34 : decode cX5_edge 34 = .ok (.new 52, 3) := by decide +kernel
theorem dX5_edge_37 : decode cX5_edge 37 = .ok (.dup, 1) := by decide +kernel
theorem dX5_edge_38 : decode cX5_edge 38 = .ok (.ldc 111, 2) := by decide +kernel
theorem dX5_edge_40 : decode cX5_edge 40 = .ok (.invokespecial 56, 3) := by decide +kernel
theorem dX5_edge_43 : decode cX5_edge 43 = .ok (.athrow, 1) := by decide +kernel
theorem dX5_edge_44 : decode cX5_edge 44 = .ok (.aload_n 0, 1) := by decide +kernel
theorem dX5_edge_45 : decode cX5_edge 45 = .ok (.getfield 31, 3) := by decide +kernel
theorem dX5_edge_48 : decode cX5_edge 48 = .ok (.getfield 84, 3) := by decide +kernel
theorem dX5_edge_51 : decode cX5_edge 51 = .ok (.iload_n 1, 1) := by decide +kernel
theorem dX5_edge_52 : decode cX5_edge 52 = .ok (.iload_n 2, 1) := by decide +kernel
theorem dX5_edge_53 : decode cX5_edge 53 = .ok (.iload_n 3, 1) := by decide +kernel
theorem dX5_edge_54 : decode cX5_edge 54 = .ok (.invokevirtual 113, 3) := by decide +kernel
theorem dX5_edge_57 : decode cX5_edge 57 = .ok (.lreturn, 1) := by decide +kernel
theorem dX5_distance_0 : decode cX5_distance 0 = .ok (.aload_n 0, 1) := by decide +kernel
theorem dX5_distance_1 : decode cX5_distance 1 = .ok (.getfield 31, 3) := by decide +kernel
theorem dX5_distance_4 : decode cX5_distance 4 = .ok (.getfield 84, 3) := by decide +kernel
theorem dX5_distance_7 : decode cX5_distance 7 = .ok (.iload_n 1, 1) := by decide +kernel
theorem dX5_distance_8 : decode cX5_distance 8 = .ok (.invokevirtual 88, 3) := by decide +kernel
theorem dX5_distance_11 : decode cX5_distance 11 = .ok (.ifCond .eq 26, 3) := by decide +kernel
theorem dX5_distance_14 : decode cX5_distance 14 = .ok (.aload_n 0, 1) := by decide +kernel
theorem dX5_distance_15 : decode cX5_distance 15 = .ok (.getfield 31, 3) := by decide +kernel
theorem dX5_distance_18 : decode cX5_distance 18 = .ok (.getfield 84, 3) := by decide +kernel
theorem dX5_distance_21 : decode cX5_distance 21 = .ok (.iload_n 2, 1) := by decide +kernel
theorem dX5_distance_22 : decode cX5_distance 22 = .ok (.invokevirtual 88, 3) := by decide +kernel
theorem dX5_distance_25 : decode cX5_distance 25 = .ok (.ifCond .eq 12, 3) := by decide +kernel
theorem dX5_distance_28 : decode cX5_distance 28 = .ok (.iload_n 3, 1) := by decide +kernel
theorem dX5_distance_29 : decode cX5_distance 29 = .ok (.ifCond .lt 8, 3) := by decide +kernel
theorem dX5_distance_32 : decode cX5_distance 32 = .ok (.iload_n 3, 1) := by decide +kernel
theorem dX5_distance_33 : decode cX5_distance 33 = .ok (.iconst 1, 1) := by decide +kernel
theorem dX5_distance_34 : decode cX5_distance 34 = .ok (.if_icmp .le 13, 3) := by decide +kernel
theorem dX5_distance_37 : decode cX5_distance 37 = .ok (.new 52, 3) := by decide +kernel
theorem dX5_distance_40 : decode cX5_distance 40 = .ok (.dup, 1) := by decide +kernel
theorem dX5_distance_41 : decode cX5_distance 41 = .ok (.ldc 117, 2) := by decide +kernel
theorem dX5_distance_43 : decode cX5_distance 43 = .ok (.invokespecial 56, 3) := by decide +kernel
theorem dX5_distance_46 : decode cX5_distance 46 = .ok (.athrow, 1) := by decide +kernel
theorem dX5_distance_47 : decode cX5_distance 47 = .ok (.aload_n 0, 1) := by decide +kernel
theorem dX5_distance_48 : decode cX5_distance 48 = .ok (.getfield 31, 3) := by decide +kernel
theorem dX5_distance_51 : decode cX5_distance 51 = .ok (.iload_n 1, 1) := by decide +kernel
theorem dX5_distance_52 : decode cX5_distance 52 = .ok (.iload_n 2, 1) := by decide +kernel
theorem dX5_distance_53 : decode cX5_distance 53 = .ok (.invokevirtual 119, 3) := by decide +kernel
theorem dX5_distance_56 : decode cX5_distance 56 = .ok (.ifCond .eq 6, 3) := by decide +kernel
theorem dX5_distance_59 : decode cX5_distance 59 = .ok (.iload_n 3, 1) := by decide +kernel
theorem dX5_distance_60 : decode cX5_distance 60 = .ok (.i2l, 1) := by decide +kernel
theorem dX5_distance_61 : decode cX5_distance 61 = .ok (.lreturn, 1) := by decide +kernel
theorem dX5_distance_62 : decode cX5_distance 62 = .ok (.aload_n 0, 1) := by decide +kernel
theorem dX5_distance_63 : decode cX5_distance 63 = .ok (.getfield 31, 3) := by decide +kernel
theorem dX5_distance_66 : decode cX5_distance 66 = .ok (.getfield 84, 3) := by decide +kernel
theorem dX5_distance_69 : decode cX5_distance 69 = .ok (.iload_n 1, 1) := by decide +kernel
theorem dX5_distance_70 : decode cX5_distance 70 = .ok (.iload_n 2, 1) := by decide +kernel
theorem dX5_distance_71 : decode cX5_distance 71 = .ok (.iload_n 3, 1) := by decide +kernel
theorem dX5_distance_72 : decode cX5_distance 72 = .ok (.invokevirtual 122, 3) := by decide +kernel
theorem dX5_distance_75 : decode cX5_distance 75 = .ok (.lreturn, 1) := by decide +kernel
theorem dX5_exception_0 : decode cX5_exception 0 = .ok (.iload_n 1, 1) := by decide +kernel
theorem dX5_exception_1 : decode cX5_exception 1 = .ok (.invokestatic 125, 3) := by decide +kernel
theorem dX5_exception_4 : decode cX5_exception 4 = .ok (.ifCond .eq 17, 3) := by decide +kernel
theorem dX5_exception_7 : decode cX5_exception 7 = .ok (.iload_n 2, 1) := by decide +kernel
theorem dX5_exception_8 : decode cX5_exception 8 = .ok (.invokestatic 125, 3) := by decide +kernel
theorem dX5_exception_11 : decode cX5_exception 11 = .ok (.ifCond .eq 10, 3) := by decide +kernel
theorem dX5_exception_14 : decode cX5_exception 14 = .ok (.iload_n 3, 1) := by decide +kernel
theorem dX5_exception_15 : decode cX5_exception 15 = .ok (.invokestatic 125, 3) := by decide +kernel
theorem dX5_exception_18 : decode cX5_exception 18 = .ok (.ifCond .ne 13, 3) := by decide +kernel
theorem dX5_exception_21 : decode cX5_exception 21 = .ok (.new 52, 3) := by decide +kernel
theorem dX5_exception_24 : decode cX5_exception 24 = .ok (.dup, 1) := by decide +kernel
theorem dX5_exception_25 : decode cX5_exception 25 = .ok (.ldc 54, 2) := by decide +kernel
theorem dX5_exception_27 : decode cX5_exception 27 = .ok (.invokespecial 56, 3) := by decide +kernel
theorem dX5_exception_30 : decode cX5_exception 30 = .ok (.athrow, 1) := by decide +kernel
theorem dX5_exception_31 : decode cX5_exception 31 = .ok (.aload_n 0, 1) := by decide +kernel
theorem dX5_exception_32 : decode cX5_exception 32 = .ok (.getfield 31, 3) := by decide +kernel
theorem dX5_exception_35 : decode cX5_exception 35 = .ok (.iload_n 1, 1) := by decide +kernel
theorem dX5_exception_36 : decode cX5_exception 36 = .ok (.iload_n 2, 1) := by decide +kernel
theorem dX5_exception_37 : decode cX5_exception 37 = .ok (.iload_n 3, 1) := by decide +kernel
theorem dX5_exception_38 : decode cX5_exception 38 = .ok (.invokevirtual 128, 3) := by decide +kernel
theorem dX5_exception_41 : decode cX5_exception 41 = .ok (.ireturn, 1) := by decide +kernel
theorem dX5_row_0 : decode cX5_row 0 = .ok (.iload_n 1, 1) := by decide +kernel
theorem dX5_row_1 : decode cX5_row 1 = .ok (.iconst 1, 1) := by decide +kernel
theorem dX5_row_2 : decode cX5_row 2 = .ok (.if_icmp .lt 23, 3) := by decide +kernel
theorem dX5_row_5 : decode cX5_row 5 = .ok (.iload_n 1, 1) := by decide +kernel
theorem dX5_row_6 : decode cX5_row 6 = .ok (.aload_n 0, 1) := by decide +kernel
theorem dX5_row_7 : decode cX5_row 7 = .ok (.getfield 31, 3) := by decide +kernel
theorem dX5_row_10 : decode cX5_row 10 = .ok (.getfield 80, 3) := by decide +kernel
theorem dX5_row_13 : decode cX5_row 13 = .ok (.if_icmp .gt 12, 3) := by decide +kernel
theorem dX5_row_16 : decode cX5_row 16 = .ok (.iload_n 2, 1) := by decide +kernel
theorem dX5_row_17 : decode cX5_row 17 = .ok (.ifCond .lt 8, 3) := by decide +kernel
theorem dX5_row_20 : decode cX5_row 20 = .ok (.iload_n 2, 1) := by decide +kernel
theorem dX5_row_21 : decode cX5_row 21 = .ok (.iconst 1, 1) := by decide +kernel
theorem dX5_row_22 : decode cX5_row 22 = .ok (.if_icmp .le 13, 3) := by decide +kernel
theorem dX5_row_25 : decode cX5_row 25 = .ok (.new 52, 3) := by decide +kernel
theorem dX5_row_28 : decode cX5_row 28 = .ok (.dup, 1) := by decide +kernel
theorem dX5_row_29 : decode cX5_row 29 = .ok (.ldc 132, 2) := by decide +kernel
theorem dX5_row_31 : decode cX5_row 31 = .ok (.invokespecial 56, 3) := by decide +kernel
theorem dX5_row_34 : decode cX5_row 34 = .ok (.athrow, 1) := by decide +kernel
theorem dX5_row_35 : decode cX5_row 35 = .ok (.iload_n 2, 1) := by decide +kernel
theorem dX5_row_36 : decode cX5_row 36 = .ok (.ifCond .ne 17, 3) := by decide +kernel
theorem dX5_row_39 : decode cX5_row 39 = .ok (.aload_n 0, 1) := by decide +kernel
theorem dX5_row_40 : decode cX5_row 40 = .ok (.getfield 31, 3) := by decide +kernel
theorem dX5_row_43 : decode cX5_row 43 = .ok (.getfield 134, 3) := by decide +kernel
theorem dX5_row_46 : decode cX5_row 46 = .ok (.iload_n 1, 1) := by decide +kernel
theorem dX5_row_47 : decode cX5_row 47 = .ok (.iconst 1, 1) := by decide +kernel
theorem dX5_row_48 : decode cX5_row 48 = .ok (.isub, 1) := by decide +kernel
theorem dX5_row_49 : decode cX5_row 49 = .ok (.iaload, 1) := by decide +kernel
theorem dX5_row_50 : decode cX5_row 50 = .ok (.goto 14, 3) := by decide +kernel
theorem dX5_row_53 : decode cX5_row 53 = .ok (.aload_n 0, 1) := by decide +kernel
theorem dX5_row_54 : decode cX5_row 54 = .ok (.getfield 31, 3) := by decide +kernel
theorem dX5_row_57 : decode cX5_row 57 = .ok (.getfield 137, 3) := by decide +kernel
theorem dX5_row_60 : decode cX5_row 60 = .ok (.iload_n 1, 1) := by decide +kernel
theorem dX5_row_61 : decode cX5_row 61 = .ok (.iconst 1, 1) := by decide +kernel
theorem dX5_row_62 : decode cX5_row 62 = .ok (.isub, 1) := by decide +kernel
theorem dX5_row_63 : decode cX5_row 63 = .ok (.iaload, 1) := by decide +kernel
theorem dX5_row_64 : decode cX5_row 64 = .ok (.ireturn, 1) := by decide +kernel
theorem dX5_load_0 : decode cX5_load 0 = .ok (.iload_n 1, 1) := by decide +kernel
theorem dX5_load_1 : decode cX5_load 1 = .ok (.invokestatic 49, 3) := by decide +kernel
theorem dX5_load_4 : decode cX5_load 4 = .ok (.ifCond .eq 12, 3) := by decide +kernel
theorem dX5_load_7 : decode cX5_load 7 = .ok (.iload_n 2, 1) := by decide +kernel
theorem dX5_load_8 : decode cX5_load 8 = .ok (.ifCond .lt 8, 3) := by decide +kernel
theorem dX5_load_11 : decode cX5_load 11 = .ok (.iload_n 2, 1) := by decide +kernel
theorem dX5_load_12 : decode cX5_load 12 = .ok (.iconst 1, 1) := by decide +kernel
theorem dX5_load_13 : decode cX5_load 13 = .ok (.if_icmp .le 13, 3) := by decide +kernel
theorem dX5_load_16 : decode cX5_load 16 = .ok (.new 52, 3) := by decide +kernel
theorem dX5_load_19 : decode cX5_load 19 = .ok (.dup, 1) := by decide +kernel
theorem dX5_load_20 : decode cX5_load 20 = .ok (.ldc 140, 2) := by decide +kernel
theorem dX5_load_22 : decode cX5_load 22 = .ok (.invokespecial 56, 3) := by decide +kernel
theorem dX5_load_25 : decode cX5_load 25 = .ok (.athrow, 1) := by decide +kernel
theorem dX5_load_26 : decode cX5_load 26 = .ok (.aload_n 0, 1) := by decide +kernel
theorem dX5_load_27 : decode cX5_load 27 = .ok (.getfield 31, 3) := by decide +kernel
theorem dX5_load_30 : decode cX5_load 30 = .ok (.iload_n 2, 1) := by decide +kernel
theorem dX5_load_31 : decode cX5_load 31 = .ok (.ifCond .ne 8, 3) := by decide +kernel
theorem dX5_load_34 : decode cX5_load 34 = .ok (.bipush 8, 2) := by decide +kernel
theorem dX5_load_36 : decode cX5_load 36 = .ok (.goto 5, 3) := by decide +kernel
theorem dX5_load_39 : decode cX5_load 39 = .ok (.bipush 9, 2) := by decide +kernel
theorem dX5_load_41 : decode cX5_load 41 = .ok (.iload_n 1, 1) := by decide +kernel
theorem dX5_load_42 : decode cX5_load 42 = .ok (.invokevirtual 142, 3) := by decide +kernel
theorem dX5_load_45 : decode cX5_load 45 = .ok (.ireturn, 1) := by decide +kernel
theorem dX5_unmatched_0 : decode cX5_unmatched 0 = .ok (.iload_n 1, 1) := by decide +kernel
theorem dX5_unmatched_1 : decode cX5_unmatched 1 = .ok (.ifCond .ge 13, 3) := by decide +kernel
theorem dX5_unmatched_4 : decode cX5_unmatched 4 = .ok (.new 52, 3) := by decide +kernel
theorem dX5_unmatched_7 : decode cX5_unmatched 7 = .ok (.dup, 1) := by decide +kernel
theorem dX5_unmatched_8 : decode cX5_unmatched 8 = .ok (.ldc 145, 2) := by decide +kernel
theorem dX5_unmatched_10 : decode cX5_unmatched 10 = .ok (.invokespecial 56, 3) := by decide +kernel
theorem dX5_unmatched_13 : decode cX5_unmatched 13 = .ok (.athrow, 1) := by decide +kernel
theorem dX5_unmatched_14 : decode cX5_unmatched 14 = .ok (.aload_n 0, 1) := by decide +kernel
theorem dX5_unmatched_15 : decode cX5_unmatched 15 = .ok (.getfield 31, 3) := by decide +kernel
theorem dX5_unmatched_18 : decode cX5_unmatched 18 = .ok (.iload_n 1, 1) := by decide +kernel
theorem dX5_unmatched_19 : decode cX5_unmatched 19 = .ok (.invokevirtual 147, 3) := by decide +kernel
theorem dX5_unmatched_22 : decode cX5_unmatched 22 = .ok (.ireturn, 1) := by decide +kernel
theorem dX5_clash_0 : decode cX5_clash 0 = .ok (.iload_n 1, 1) := by decide +kernel
theorem dX5_clash_1 : decode cX5_clash 1 = .ok (.ifCond .lt 12, 3) := by decide +kernel
theorem dX5_clash_4 : decode cX5_clash 4 = .ok (.iload_n 2, 1) := by decide +kernel
theorem dX5_clash_5 : decode cX5_clash 5 = .ok (.ifCond .lt 8, 3) := by decide +kernel
theorem dX5_clash_8 : decode cX5_clash 8 = .ok (.iload_n 2, 1) := by decide +kernel
theorem dX5_clash_9 : decode cX5_clash 9 = .ok (.iconst 1, 1) := by decide +kernel
theorem dX5_clash_10 : decode cX5_clash 10 = .ok (.if_icmp .le 13, 3) := by decide +kernel
theorem dX5_clash_13 : decode cX5_clash 13 = .ok (.new 52, 3) := by decide +kernel
theorem dX5_clash_16 : decode cX5_clash 16 = .ok (.dup, 1) := by decide +kernel
theorem dX5_clash_17 : decode cX5_clash 17 = .ok (.ldc 151, 2) := by decide +kernel
theorem dX5_clash_19 : decode cX5_clash 19 = .ok (.invokespecial 56, 3) := by decide +kernel
theorem dX5_clash_22 : decode cX5_clash 22 = .ok (.athrow, 1) := by decide +kernel
theorem dX5_clash_23 : decode cX5_clash 23 = .ok (.aload_n 0, 1) := by decide +kernel
theorem dX5_clash_24 : decode cX5_clash 24 = .ok (.getfield 31, 3) := by decide +kernel
theorem dX5_clash_27 : decode cX5_clash 27 = .ok (.iload_n 1, 1) := by decide +kernel
theorem dX5_clash_28 : decode cX5_clash 28 = .ok (.iload_n 2, 1) := by decide +kernel
theorem dX5_clash_29 : decode cX5_clash 29 = .ok (.invokevirtual 153, 3) := by decide +kernel
theorem dX5_clash_32 : decode cX5_clash 32 = .ok (.ireturn, 1) := by decide +kernel
theorem dX5_write_0 : decode cX5_write 0 = .ok (.iload_n 1, 1) := by decide +kernel
theorem dX5_write_1 : decode cX5_write 1 = .ok (.ifCond .ge 13, 3) := by decide +kernel
theorem dX5_write_4 : decode cX5_write 4 = .ok (.new 52, 3) := by decide +kernel
theorem dX5_write_7 : decode cX5_write 7 = .ok (.dup, 1) := by decide +kernel
theorem dX5_write_8 : decode cX5_write 8 = .ok (.ldc 145, 2) := by decide +kernel
theorem dX5_write_10 : decode cX5_write 10 = .ok (.invokespecial 56, 3) := by decide +kernel
theorem dX5_write_13 : decode cX5_write 13 = .ok (.athrow, 1) := by decide +kernel
theorem dX5_write_14 : decode cX5_write 14 = .ok (.iload_n 1, 1) := by decide +kernel
theorem dX5_write_15 : decode cX5_write 15 = .ok (.aload_n 0, 1) := by decide +kernel
theorem dX5_write_16 : decode cX5_write 16 = .ok (.getfield 31, 3) := by decide +kernel
theorem dX5_write_19 : decode cX5_write 19 = .ok (.getfield 156, 3) := by decide +kernel
theorem dX5_write_22 : decode cX5_write 22 = .ok (.if_icmp .ge 14, 3) := by decide +kernel
theorem dX5_write_25 : decode cX5_write 25 = .ok (.aload_n 0, 1) := by decide +kernel
theorem dX5_write_26 : decode cX5_write 26 = .ok (.getfield 31, 3) := by decide +kernel
theorem dX5_write_29 : decode cX5_write 29 = .ok (.iload_n 1, 1) := by decide +kernel
theorem dX5_write_30 : decode cX5_write 30 = .ok (.invokevirtual 159, 3) := by decide +kernel
theorem dX5_write_33 : decode cX5_write 33 = .ok (.goto 4, 3) := by decide +kernel
theorem dX5_write_36 : decode cX5_write 36 = .ok (.iconst (-1), 1) := by decide +kernel
theorem dX5_write_37 : decode cX5_write 37 = .ok (.ireturn, 1) := by decide +kernel
theorem dX5_count_0 : decode cX5_count 0 = .ok (.iload_n 1, 1) := by decide +kernel
theorem dX5_count_1 : decode cX5_count 1 = .ok (.tableswitch 66 0 3 #[31, 39, 50, 58], 31) := by decide +kernel
theorem dX5_count_32 : decode cX5_count 32 = .ok (.aload_n 0, 1) := by decide +kernel
theorem dX5_count_33 : decode cX5_count 33 = .ok (.getfield 31, 3) := by decide +kernel
theorem dX5_count_36 : decode cX5_count 36 = .ok (.getfield 80, 3) := by decide +kernel
theorem dX5_count_39 : decode cX5_count 39 = .ok (.ireturn, 1) := by decide +kernel
theorem dX5_count_40 : decode cX5_count 40 = .ok (.aload_n 0, 1) := by decide +kernel
theorem dX5_count_41 : decode cX5_count 41 = .ok (.getfield 31, 3) := by decide +kernel
theorem dX5_count_44 : decode cX5_count 44 = .ok (.getfield 84, 3) := by decide +kernel
theorem dX5_count_47 : decode cX5_count 47 = .ok (.getfield 162, 3) := by decide +kernel
theorem dX5_count_50 : decode cX5_count 50 = .ok (.ireturn, 1) := by decide +kernel
theorem dX5_count_51 : decode cX5_count 51 = .ok (.aload_n 0, 1) := by decide +kernel
theorem dX5_count_52 : decode cX5_count 52 = .ok (.getfield 20, 3) := by decide +kernel
theorem dX5_count_55 : decode cX5_count 55 = .ok (.getfield 165, 3) := by decide +kernel
theorem dX5_count_58 : decode cX5_count 58 = .ok (.ireturn, 1) := by decide +kernel
theorem dX5_count_59 : decode cX5_count 59 = .ok (.aload_n 0, 1) := by decide +kernel
theorem dX5_count_60 : decode cX5_count 60 = .ok (.getfield 31, 3) := by decide +kernel
theorem dX5_count_63 : decode cX5_count 63 = .ok (.getfield 156, 3) := by decide +kernel
theorem dX5_count_66 : decode cX5_count 66 = .ok (.ireturn, 1) := by decide +kernel
theorem dX5_count_67 : decode cX5_count 67 = .ok (.new 52, 3) := by decide +kernel
theorem dX5_count_70 : decode cX5_count 70 = .ok (.dup, 1) := by decide +kernel
theorem dX5_count_71 : decode cX5_count 71 = .ok (.ldc 168, 2) := by decide +kernel
theorem dX5_count_73 : decode cX5_count 73 = .ok (.invokespecial 56, 3) := by decide +kernel
theorem dX5_count_76 : decode cX5_count 76 = .ok (.athrow, 1) := by decide +kernel
theorem dX5_isPinOrNone_0 : decode cX5_isPinOrNone 0 = .ok (.iload_n 0, 1) := by decide +kernel
theorem dX5_isPinOrNone_1 : decode cX5_isPinOrNone 1 = .ok (.iconst (-1), 1) := by decide +kernel
theorem dX5_isPinOrNone_2 : decode cX5_isPinOrNone 2 = .ok (.if_icmp .eq 10, 3) := by decide +kernel
theorem dX5_isPinOrNone_5 : decode cX5_isPinOrNone 5 = .ok (.iload_n 0, 1) := by decide +kernel
theorem dX5_isPinOrNone_6 : decode cX5_isPinOrNone 6 = .ok (.invokestatic 49, 3) := by decide +kernel
theorem dX5_isPinOrNone_9 : decode cX5_isPinOrNone 9 = .ok (.ifCond .eq 7, 3) := by decide +kernel
theorem dX5_isPinOrNone_12 : decode cX5_isPinOrNone 12 = .ok (.iconst 1, 1) := by decide +kernel
theorem dX5_isPinOrNone_13 : decode cX5_isPinOrNone 13 = .ok (.goto 4, 3) := by decide +kernel
theorem dX5_isPinOrNone_16 : decode cX5_isPinOrNone 16 = .ok (.iconst 0, 1) := by decide +kernel
theorem dX5_isPinOrNone_17 : decode cX5_isPinOrNone 17 = .ok (.ireturn, 1) := by decide +kernel
theorem dX5_isSmallLetter_0 : decode cX5_isSmallLetter 0 = .ok (.iload_n 0, 1) := by decide +kernel
theorem dX5_isSmallLetter_1 : decode cX5_isSmallLetter 1 = .ok (.bipush 97, 2) := by decide +kernel
theorem dX5_isSmallLetter_3 : decode cX5_isSmallLetter 3 = .ok (.if_icmp .lt 13, 3) := by decide +kernel
theorem dX5_isSmallLetter_6 : decode cX5_isSmallLetter 6 = .ok (.iload_n 0, 1) := by decide +kernel
theorem dX5_isSmallLetter_7 : decode cX5_isSmallLetter 7 = .ok (.bipush 122, 2) := by decide +kernel
theorem dX5_isSmallLetter_9 : decode cX5_isSmallLetter 9 = .ok (.if_icmp .gt 7, 3) := by decide +kernel
theorem dX5_isSmallLetter_12 : decode cX5_isSmallLetter 12 = .ok (.iconst 1, 1) := by decide +kernel
theorem dX5_isSmallLetter_13 : decode cX5_isSmallLetter 13 = .ok (.goto 4, 3) := by decide +kernel
theorem dX5_isSmallLetter_16 : decode cX5_isSmallLetter 16 = .ok (.iconst 0, 1) := by decide +kernel
theorem dX5_isSmallLetter_17 : decode cX5_isSmallLetter 17 = .ok (.ireturn, 1) := by decide +kernel
theorem dX5_isDigit_0 : decode cX5_isDigit 0 = .ok (.iload_n 0, 1) := by decide +kernel
theorem dX5_isDigit_1 : decode cX5_isDigit 1 = .ok (.bipush 48, 2) := by decide +kernel
theorem dX5_isDigit_3 : decode cX5_isDigit 3 = .ok (.if_icmp .lt 13, 3) := by decide +kernel
theorem dX5_isDigit_6 : decode cX5_isDigit 6 = .ok (.iload_n 0, 1) := by decide +kernel
theorem dX5_isDigit_7 : decode cX5_isDigit 7 = .ok (.bipush 57, 2) := by decide +kernel
theorem dX5_isDigit_9 : decode cX5_isDigit 9 = .ok (.if_icmp .gt 7, 3) := by decide +kernel
theorem dX5_isDigit_12 : decode cX5_isDigit 12 = .ok (.iconst 1, 1) := by decide +kernel
theorem dX5_isDigit_13 : decode cX5_isDigit 13 = .ok (.goto 4, 3) := by decide +kernel
theorem dX5_isDigit_16 : decode cX5_isDigit 16 = .ok (.iconst 0, 1) := by decide +kernel
theorem dX5_isDigit_17 : decode cX5_isDigit 17 = .ok (.ireturn, 1) := by decide +kernel
theorem dX5_isNameUnit_0 : decode cX5_isNameUnit 0 = .ok (.iload_n 0, 1) := by decide +kernel
theorem dX5_isNameUnit_1 : decode cX5_isNameUnit 1 = .ok (.invokestatic 170, 3) := by decide +kernel
theorem dX5_isNameUnit_4 : decode cX5_isNameUnit 4 = .ok (.ifCond .ne 22, 3) := by decide +kernel
theorem dX5_isNameUnit_7 : decode cX5_isNameUnit 7 = .ok (.iload_n 0, 1) := by decide +kernel
theorem dX5_isNameUnit_8 : decode cX5_isNameUnit 8 = .ok (.invokestatic 173, 3) := by decide +kernel
theorem dX5_isNameUnit_11 : decode cX5_isNameUnit 11 = .ok (.ifCond .ne 15, 3) := by decide +kernel
theorem dX5_isNameUnit_14 : decode cX5_isNameUnit 14 = .ok (.iload_n 0, 1) := by decide +kernel
theorem dX5_isNameUnit_15 : decode cX5_isNameUnit 15 = .ok (.bipush 95, 2) := by decide +kernel
theorem dX5_isNameUnit_17 : decode cX5_isNameUnit 17 = .ok (.if_icmp .eq 9, 3) := by decide +kernel
theorem dX5_isNameUnit_20 : decode cX5_isNameUnit 20 = .ok (.iload_n 0, 1) := by decide +kernel
theorem dX5_isNameUnit_21 : decode cX5_isNameUnit 21 = .ok (.bipush 47, 2) := by decide +kernel
theorem dX5_isNameUnit_23 : decode cX5_isNameUnit 23 = .ok (.if_icmp .ne 7, 3) := by decide +kernel
theorem dX5_isNameUnit_26 : decode cX5_isNameUnit 26 = .ok (.iconst 1, 1) := by decide +kernel
theorem dX5_isNameUnit_27 : decode cX5_isNameUnit 27 = .ok (.goto 4, 3) := by decide +kernel
theorem dX5_isNameUnit_30 : decode cX5_isNameUnit 30 = .ok (.iconst 0, 1) := by decide +kernel
theorem dX5_isNameUnit_31 : decode cX5_isNameUnit 31 = .ok (.ireturn, 1) := by decide +kernel
theorem dX5_isBlank_0 : decode cX5_isBlank 0 = .ok (.iload_n 0, 1) := by decide +kernel
theorem dX5_isBlank_1 : decode cX5_isBlank 1 = .ok (.bipush 32, 2) := by decide +kernel
theorem dX5_isBlank_3 : decode cX5_isBlank 3 = .ok (.if_icmp .eq 9, 3) := by decide +kernel
theorem dX5_isBlank_6 : decode cX5_isBlank 6 = .ok (.iload_n 0, 1) := by decide +kernel
theorem dX5_isBlank_7 : decode cX5_isBlank 7 = .ok (.bipush 10, 2) := by decide +kernel
theorem dX5_isBlank_9 : decode cX5_isBlank 9 = .ok (.if_icmp .ne 7, 3) := by decide +kernel
theorem dX5_isBlank_12 : decode cX5_isBlank 12 = .ok (.iconst 1, 1) := by decide +kernel
theorem dX5_isBlank_13 : decode cX5_isBlank 13 = .ok (.goto 4, 3) := by decide +kernel
theorem dX5_isBlank_16 : decode cX5_isBlank 16 = .ok (.iconst 0, 1) := by decide +kernel
theorem dX5_isBlank_17 : decode cX5_isBlank 17 = .ok (.ireturn, 1) := by decide +kernel
theorem dX5_makesClock_0 : decode cX5_makesClock 0 = .ok (.iload_n 0, 1) := by decide +kernel
theorem dX5_makesClock_1 : decode cX5_makesClock 1 = .ok (.ifCond .eq 13, 3) := by decide +kernel
theorem dX5_makesClock_4 : decode cX5_makesClock 4 = .ok (.iload_n 0, 1) := by decide +kernel
theorem dX5_makesClock_5 : decode cX5_makesClock 5 = .ok (.iconst 1, 1) := by decide +kernel
theorem dX5_makesClock_6 : decode cX5_makesClock 6 = .ok (.if_icmp .eq 8, 3) := by decide +kernel
theorem dX5_makesClock_9 : decode cX5_makesClock 9 = .ok (.iload_n 0, 1) := by decide +kernel
theorem dX5_makesClock_10 : decode cX5_makesClock 10 = .ok (.iconst 2, 1) := by decide +kernel
theorem dX5_makesClock_11 : decode cX5_makesClock 11 = .ok (.if_icmp .ne 7, 3) := by decide +kernel
theorem dX5_makesClock_14 : decode cX5_makesClock 14 = .ok (.iconst 1, 1) := by decide +kernel
theorem dX5_makesClock_15 : decode cX5_makesClock 15 = .ok (.goto 4, 3) := by decide +kernel
theorem dX5_makesClock_18 : decode cX5_makesClock 18 = .ok (.iconst 0, 1) := by decide +kernel
theorem dX5_makesClock_19 : decode cX5_makesClock 19 = .ok (.ireturn, 1) := by decide +kernel
theorem dX5_keyword_0 : decode cX5_keyword 0 = .ok (.iload_n 0, 1) := by decide +kernel
theorem dX5_keyword_1 : decode cX5_keyword 1 = .ok (.tableswitch 78 0 8 #[51, 54, 57, 60, 63, 66, 69, 72, 75], 51) := by decide +kernel
theorem dX5_keyword_52 : decode cX5_keyword 52 = .ok (.ldc 176, 2) := by decide +kernel
theorem dX5_keyword_54 : decode cX5_keyword 54 = .ok (.areturn, 1) := by decide +kernel
theorem dX5_keyword_55 : decode cX5_keyword 55 = .ok (.ldc 178, 2) := by decide +kernel
theorem dX5_keyword_57 : decode cX5_keyword 57 = .ok (.areturn, 1) := by decide +kernel
theorem dX5_keyword_58 : decode cX5_keyword 58 = .ok (.ldc 180, 2) := by decide +kernel
theorem dX5_keyword_60 : decode cX5_keyword 60 = .ok (.areturn, 1) := by decide +kernel
theorem dX5_keyword_61 : decode cX5_keyword 61 = .ok (.ldc 182, 2) := by decide +kernel
theorem dX5_keyword_63 : decode cX5_keyword 63 = .ok (.areturn, 1) := by decide +kernel
theorem dX5_keyword_64 : decode cX5_keyword 64 = .ok (.ldc 184, 2) := by decide +kernel
theorem dX5_keyword_66 : decode cX5_keyword 66 = .ok (.areturn, 1) := by decide +kernel
theorem dX5_keyword_67 : decode cX5_keyword 67 = .ok (.ldc 186, 2) := by decide +kernel
theorem dX5_keyword_69 : decode cX5_keyword 69 = .ok (.areturn, 1) := by decide +kernel
theorem dX5_keyword_70 : decode cX5_keyword 70 = .ok (.ldc 188, 2) := by decide +kernel
theorem dX5_keyword_72 : decode cX5_keyword 72 = .ok (.areturn, 1) := by decide +kernel
theorem dX5_keyword_73 : decode cX5_keyword 73 = .ok (.ldc 190, 2) := by decide +kernel
theorem dX5_keyword_75 : decode cX5_keyword 75 = .ok (.areturn, 1) := by decide +kernel
theorem dX5_keyword_76 : decode cX5_keyword 76 = .ok (.ldc 192, 2) := by decide +kernel
theorem dX5_keyword_78 : decode cX5_keyword 78 = .ok (.areturn, 1) := by decide +kernel
theorem dX5_keyword_79 : decode cX5_keyword 79 = .ok (.ldc 194, 2) := by decide +kernel
theorem dX5_keyword_81 : decode cX5_keyword 81 = .ok (.areturn, 1) := by decide +kernel
theorem dX5_commonDivisor_0 : decode cX5_commonDivisor 0 = .ok (.lload_n 0, 1) := by decide +kernel
theorem dX5_commonDivisor_1 : decode cX5_commonDivisor 1 = .ok (.lstore 4, 2) := by decide +kernel
theorem dX5_commonDivisor_3 : decode cX5_commonDivisor 3 = .ok (.lload_n 2, 1) := by decide +kernel
theorem dX5_commonDivisor_4 : decode cX5_commonDivisor 4 = .ok (.lstore 6, 2) := by decide +kernel
theorem dX5_commonDivisor_6 : decode cX5_commonDivisor 6 = .ok (.iconst 0, 1) := by decide +kernel
theorem dX5_commonDivisor_7 : decode cX5_commonDivisor 7 = .ok (.istore 8, 2) := by decide +kernel
theorem dX5_commonDivisor_9 : decode cX5_commonDivisor 9 = .ok (.lload 6, 2) := by decide +kernel
theorem dX5_commonDivisor_11 : decode cX5_commonDivisor 11 = .ok (.lconst 0, 1) := by decide +kernel
theorem dX5_commonDivisor_12 : decode cX5_commonDivisor 12 = .ok (.lcmp, 1) := by decide +kernel
theorem dX5_commonDivisor_13 : decode cX5_commonDivisor 13 = .ok (.ifCond .le 32, 3) := by decide +kernel
theorem dX5_commonDivisor_16 : decode cX5_commonDivisor 16 = .ok (.iload 8, 2) := by decide +kernel
theorem dX5_commonDivisor_18 : decode cX5_commonDivisor 18 = .ok (.sipush 200, 3) := by decide +kernel
theorem dX5_commonDivisor_21 : decode cX5_commonDivisor 21 = .ok (.if_icmp .ge 24, 3) := by decide +kernel
theorem dX5_commonDivisor_24 : decode cX5_commonDivisor 24 = .ok (.lload 4, 2) := by decide +kernel
theorem dX5_commonDivisor_26 : decode cX5_commonDivisor 26 = .ok (.lload 6, 2) := by decide +kernel
theorem dX5_commonDivisor_28 : decode cX5_commonDivisor 28 = .ok (.lrem, 1) := by decide +kernel
theorem dX5_commonDivisor_29 : decode cX5_commonDivisor 29 = .ok (.lstore 9, 2) := by decide +kernel
theorem dX5_commonDivisor_31 : decode cX5_commonDivisor 31 = .ok (.lload 6, 2) := by decide +kernel
theorem dX5_commonDivisor_33 : decode cX5_commonDivisor 33 = .ok (.lstore 4, 2) := by decide +kernel
theorem dX5_commonDivisor_35 : decode cX5_commonDivisor 35 = .ok (.lload 9, 2) := by decide +kernel
theorem dX5_commonDivisor_37 : decode cX5_commonDivisor 37 = .ok (.lstore 6, 2) := by decide +kernel
theorem dX5_commonDivisor_39 : decode cX5_commonDivisor 39 = .ok (.iinc 8 1, 3) := by decide +kernel
theorem dX5_commonDivisor_42 : decode cX5_commonDivisor 42 = .ok (.goto (-33), 3) := by decide +kernel
theorem dX5_commonDivisor_45 : decode cX5_commonDivisor 45 = .ok (.lload 4, 2) := by decide +kernel
theorem dX5_commonDivisor_47 : decode cX5_commonDivisor 47 = .ok (.lconst 0, 1) := by decide +kernel
theorem dX5_commonDivisor_48 : decode cX5_commonDivisor 48 = .ok (.lcmp, 1) := by decide +kernel
theorem dX5_commonDivisor_49 : decode cX5_commonDivisor 49 = .ok (.ifCond .le 8, 3) := by decide +kernel
theorem dX5_commonDivisor_52 : decode cX5_commonDivisor 52 = .ok (.lload 4, 2) := by decide +kernel
theorem dX5_commonDivisor_54 : decode cX5_commonDivisor 54 = .ok (.goto 4, 3) := by decide +kernel
theorem dX5_commonDivisor_57 : decode cX5_commonDivisor 57 = .ok (.lconst 1, 1) := by decide +kernel
theorem dX5_commonDivisor_58 : decode cX5_commonDivisor 58 = .ok (.lreturn, 1) := by decide +kernel
theorem dX5_lowestPart_0 : decode cX5_lowestPart 0 = .ok (.lload_n 0, 1) := by decide +kernel
theorem dX5_lowestPart_1 : decode cX5_lowestPart 1 = .ok (.lload_n 2, 1) := by decide +kernel
theorem dX5_lowestPart_2 : decode cX5_lowestPart 2 = .ok (.invokestatic 196, 3) := by decide +kernel
theorem dX5_lowestPart_5 : decode cX5_lowestPart 5 = .ok (.lstore 5, 2) := by decide +kernel
theorem dX5_lowestPart_7 : decode cX5_lowestPart 7 = .ok (.iload 4, 2) := by decide +kernel
theorem dX5_lowestPart_9 : decode cX5_lowestPart 9 = .ok (.ifCond .ne 7, 3) := by decide +kernel
theorem dX5_lowestPart_12 : decode cX5_lowestPart 12 = .ok (.lload_n 0, 1) := by decide +kernel
theorem dX5_lowestPart_13 : decode cX5_lowestPart 13 = .ok (.goto 4, 3) := by decide +kernel
theorem dX5_lowestPart_16 : decode cX5_lowestPart 16 = .ok (.lload_n 2, 1) := by decide +kernel
theorem dX5_lowestPart_17 : decode cX5_lowestPart 17 = .ok (.lload 5, 2) := by decide +kernel
theorem dX5_lowestPart_19 : decode cX5_lowestPart 19 = .ok (.ldiv, 1) := by decide +kernel
theorem dX5_lowestPart_20 : decode cX5_lowestPart 20 = .ok (.lreturn, 1) := by decide +kernel
theorem dX6_init_0 : decode cX6_init 0 = .ok (.aload_n 0, 1) := by decide +kernel
theorem dX6_init_1 : decode cX6_init 1 = .ok (.invokespecial 1, 3) := by decide +kernel
theorem dX6_init_4 : decode cX6_init 4 = .ok (.aload_n 0, 1) := by decide +kernel
theorem dX6_init_5 : decode cX6_init 5 = .ok (.sipush 640, 3) := by decide +kernel
theorem dX6_init_8 : decode cX6_init 8 = .ok (.newarray .int, 2) := by decide +kernel
theorem dX6_init_10 : decode cX6_init 10 = .ok (.putfield 7, 3) := by decide +kernel
theorem dX6_init_13 : decode cX6_init 13 = .ok (.aload_n 0, 1) := by decide +kernel
theorem dX6_init_14 : decode cX6_init 14 = .ok (.bipush 40, 2) := by decide +kernel
theorem dX6_init_16 : decode cX6_init 16 = .ok (.newarray .int, 2) := by decide +kernel
theorem dX6_init_18 : decode cX6_init 18 = .ok (.putfield 13, 3) := by decide +kernel
theorem dX6_init_21 : decode cX6_init 21 = .ok (.aload_n 0, 1) := by decide +kernel
theorem dX6_init_22 : decode cX6_init 22 = .ok (.sipush 1200, 3) := by decide +kernel
theorem dX6_init_25 : decode cX6_init 25 = .ok (.newarray .int, 2) := by decide +kernel
theorem dX6_init_27 : decode cX6_init 27 = .ok (.putfield 16, 3) := by decide +kernel
theorem dX6_init_30 : decode cX6_init 30 = .ok (.aload_n 0, 1) := by decide +kernel
theorem dX6_init_31 : decode cX6_init 31 = .ok (.bipush 80, 2) := by decide +kernel
theorem dX6_init_33 : decode cX6_init 33 = .ok (.newarray .int, 2) := by decide +kernel
theorem dX6_init_35 : decode cX6_init 35 = .ok (.putfield 19, 3) := by decide +kernel
theorem dX6_init_38 : decode cX6_init 38 = .ok (.aload_n 0, 1) := by decide +kernel
theorem dX6_init_39 : decode cX6_init 39 = .ok (.bipush 80, 2) := by decide +kernel
theorem dX6_init_41 : decode cX6_init 41 = .ok (.newarray .long, 2) := by decide +kernel
theorem dX6_init_43 : decode cX6_init 43 = .ok (.putfield 22, 3) := by decide +kernel
theorem dX6_init_46 : decode cX6_init 46 = .ok (.aload_n 0, 1) := by decide +kernel
theorem dX6_init_47 : decode cX6_init 47 = .ok (.bipush 80, 2) := by decide +kernel
theorem dX6_init_49 : decode cX6_init 49 = .ok (.newarray .long, 2) := by decide +kernel
theorem dX6_init_51 : decode cX6_init 51 = .ok (.putfield 26, 3) := by decide +kernel
theorem dX6_init_54 : decode cX6_init 54 = .ok (.aload_n 0, 1) := by decide +kernel
theorem dX6_init_55 : decode cX6_init 55 = .ok (.bipush 80, 2) := by decide +kernel
theorem dX6_init_57 : decode cX6_init 57 = .ok (.newarray .int, 2) := by decide +kernel
theorem dX6_init_59 : decode cX6_init 59 = .ok (.putfield 29, 3) := by decide +kernel
theorem dX6_init_62 : decode cX6_init 62 = .ok (.aload_n 0, 1) := by decide +kernel
theorem dX6_init_63 : decode cX6_init 63 = .ok (.bipush 80, 2) := by decide +kernel
theorem dX6_init_65 : decode cX6_init 65 = .ok (.newarray .int, 2) := by decide +kernel
theorem dX6_init_67 : decode cX6_init 67 = .ok (.putfield 32, 3) := by decide +kernel
theorem dX6_init_70 : decode cX6_init 70 = .ok (.aload_n 0, 1) := by decide +kernel
theorem dX6_init_71 : decode cX6_init 71 = .ok (.bipush 80, 2) := by decide +kernel
theorem dX6_init_73 : decode cX6_init 73 = .ok (.newarray .int, 2) := by decide +kernel
theorem dX6_init_75 : decode cX6_init 75 = .ok (.putfield 35, 3) := by decide +kernel
theorem dX6_init_78 : decode cX6_init 78 = .ok (.aload_n 0, 1) := by decide +kernel
theorem dX6_init_79 : decode cX6_init 79 = .ok (.sipush 3840, 3) := by decide +kernel
theorem dX6_init_82 : decode cX6_init 82 = .ok (.newarray .int, 2) := by decide +kernel
theorem dX6_init_84 : decode cX6_init 84 = .ok (.putfield 38, 3) := by decide +kernel
theorem dX6_init_87 : decode cX6_init 87 = .ok (.aload_n 0, 1) := by decide +kernel
theorem dX6_init_88 : decode cX6_init 88 = .ok (.sipush 240, 3) := by decide +kernel
theorem dX6_init_91 : decode cX6_init 91 = .ok (.newarray .int, 2) := by decide +kernel
theorem dX6_init_93 : decode cX6_init 93 = .ok (.putfield 41, 3) := by decide +kernel
theorem dX6_init_96 : decode cX6_init 96 = .ok (.aload_n 0, 1) := by decide +kernel
theorem dX6_init_97 : decode cX6_init 97 = .ok (.bipush 24, 2) := by decide +kernel
theorem dX6_init_99 : decode cX6_init 99 = .ok (.newarray .int, 2) := by decide +kernel
theorem dX6_init_101 : decode cX6_init 101 = .ok (.putfield 44, 3) := by decide +kernel
theorem dX6_init_104 : decode cX6_init 104 = .ok (.aload_n 0, 1) := by decide +kernel
theorem dX6_init_105 : decode cX6_init 105 = .ok (.bipush 24, 2) := by decide +kernel
theorem dX6_init_107 : decode cX6_init 107 = .ok (.newarray .int, 2) := by decide +kernel
theorem dX6_init_109 : decode cX6_init 109 = .ok (.putfield 47, 3) := by decide +kernel
theorem dX6_init_112 : decode cX6_init 112 = .ok (.aload_n 0, 1) := by decide +kernel
theorem dX6_init_113 : decode cX6_init 113 = .ok (.bipush 24, 2) := by decide +kernel
theorem dX6_init_115 : decode cX6_init 115 = .ok (.newarray .long, 2) := by decide +kernel
theorem dX6_init_117 : decode cX6_init 117 = .ok (.putfield 50, 3) := by decide +kernel
theorem dX6_init_120 : decode cX6_init 120 = .ok (.aload_n 0, 1) := by decide +kernel
theorem dX6_init_121 : decode cX6_init 121 = .ok (.bipush 24, 2) := by decide +kernel
theorem dX6_init_123 : decode cX6_init 123 = .ok (.newarray .long, 2) := by decide +kernel
theorem dX6_init_125 : decode cX6_init 125 = .ok (.putfield 53, 3) := by decide +kernel
theorem dX6_init_128 : decode cX6_init 128 = .ok (.aload_n 0, 1) := by decide +kernel
theorem dX6_init_129 : decode cX6_init 129 = .ok (.bipush 24, 2) := by decide +kernel
theorem dX6_init_131 : decode cX6_init 131 = .ok (.newarray .long, 2) := by decide +kernel
theorem dX6_init_133 : decode cX6_init 133 = .ok (.putfield 56, 3) := by decide +kernel
theorem dX6_init_136 : decode cX6_init 136 = .ok (.aload_n 0, 1) := by decide +kernel
theorem dX6_init_137 : decode cX6_init 137 = .ok (.bipush 24, 2) := by decide +kernel
theorem dX6_init_139 : decode cX6_init 139 = .ok (.newarray .long, 2) := by decide +kernel
theorem dX6_init_141 : decode cX6_init 141 = .ok (.putfield 59, 3) := by decide +kernel
theorem dX6_init_144 : decode cX6_init 144 = .ok (.aload_n 0, 1) := by decide +kernel
theorem dX6_init_145 : decode cX6_init 145 = .ok (.bipush 24, 2) := by decide +kernel
theorem dX6_init_147 : decode cX6_init 147 = .ok (.newarray .boolean, 2) := by decide +kernel
theorem dX6_init_149 : decode cX6_init 149 = .ok (.putfield 62, 3) := by decide +kernel
theorem dX6_init_152 : decode cX6_init 152 = .ok (.aload_n 0, 1) := by decide +kernel
theorem dX6_init_153 : decode cX6_init 153 = .ok (.bipush 40, 2) := by decide +kernel
theorem dX6_init_155 : decode cX6_init 155 = .ok (.newarray .int, 2) := by decide +kernel
theorem dX6_init_157 : decode cX6_init 157 = .ok (.putfield 66, 3) := by decide +kernel
theorem dX6_init_160 : decode cX6_init 160 = .ok (.aload_n 0, 1) := by decide +kernel
theorem dX6_init_161 : decode cX6_init 161 = .ok (.bipush 40, 2) := by decide +kernel
theorem dX6_init_163 : decode cX6_init 163 = .ok (.newarray .int, 2) := by decide +kernel
theorem dX6_init_165 : decode cX6_init 165 = .ok (.putfield 69, 3) := by decide +kernel
theorem dX6_init_168 : decode cX6_init 168 = .ok (.aload_n 0, 1) := by decide +kernel
theorem dX6_init_169 : decode cX6_init 169 = .ok (.bipush 17, 2) := by decide +kernel
theorem dX6_init_171 : decode cX6_init 171 = .ok (.newarray .boolean, 2) := by decide +kernel
theorem dX6_init_173 : decode cX6_init 173 = .ok (.putfield 72, 3) := by decide +kernel
theorem dX6_init_176 : decode cX6_init 176 = .ok (.return_, 1) := by decide +kernel
theorem dX6_thrown_0 : decode cX6_thrown 0 = .ok (.aload_n 0, 1) := by decide +kernel
theorem dX6_thrown_1 : decode cX6_thrown 1 = .ok (.getfield 75, 3) := by decide +kernel
theorem dX6_thrown_4 : decode cX6_thrown 4 = .ok (.ireturn, 1) := by decide +kernel
theorem dX6_isName_0 : decode cX6_isName 0 = .ok (.iload_n 0, 1) := by decide +kernel
theorem dX6_isName_1 : decode cX6_isName 1 = .ok (.bipush 97, 2) := by decide +kernel
theorem dX6_isName_3 : decode cX6_isName 3 = .ok (.if_icmp .lt 9, 3) := by decide +kernel
theorem dX6_isName_6 : decode cX6_isName 6 = .ok (.iload_n 0, 1) := by decide +kernel
theorem dX6_isName_7 : decode cX6_isName 7 = .ok (.bipush 122, 2) := by decide +kernel
theorem dX6_isName_9 : decode cX6_isName 9 = .ok (.if_icmp .le 27, 3) := by decide +kernel
theorem dX6_isName_12 : decode cX6_isName 12 = .ok (.iload_n 0, 1) := by decide +kernel
theorem dX6_isName_13 : decode cX6_isName 13 = .ok (.bipush 48, 2) := by decide +kernel
theorem dX6_isName_15 : decode cX6_isName 15 = .ok (.if_icmp .lt 9, 3) := by decide +kernel
theorem dX6_isName_18 : decode cX6_isName 18 = .ok (.iload_n 0, 1) := by decide +kernel
theorem dX6_isName_19 : decode cX6_isName 19 = .ok (.bipush 57, 2) := by decide +kernel
theorem dX6_isName_21 : decode cX6_isName 21 = .ok (.if_icmp .le 15, 3) := by decide +kernel
theorem dX6_isName_24 : decode cX6_isName 24 = .ok (.iload_n 0, 1) := by decide +kernel
theorem dX6_isName_25 : decode cX6_isName 25 = .ok (.bipush 95, 2) := by decide +kernel
theorem dX6_isName_27 : decode cX6_isName 27 = .ok (.if_icmp .eq 9, 3) := by decide +kernel
theorem dX6_isName_30 : decode cX6_isName 30 = .ok (.iload_n 0, 1) := by decide +kernel
theorem dX6_isName_31 : decode cX6_isName 31 = .ok (.bipush 47, 2) := by decide +kernel
theorem dX6_isName_33 : decode cX6_isName 33 = .ok (.if_icmp .ne 7, 3) := by decide +kernel
theorem dX6_isName_36 : decode cX6_isName 36 = .ok (.iconst 1, 1) := by decide +kernel
theorem dX6_isName_37 : decode cX6_isName 37 = .ok (.goto 4, 3) := by decide +kernel
theorem dX6_isName_40 : decode cX6_isName 40 = .ok (.iconst 0, 1) := by decide +kernel
theorem dX6_isName_41 : decode cX6_isName 41 = .ok (.ireturn, 1) := by decide +kernel
theorem dX6_name_0 : decode cX6_name 0 = .ok (.aload_n 0, 1) := by decide +kernel
theorem dX6_name_1 : decode cX6_name 1 = .ok (.iload_n 1, 1) := by decide +kernel
theorem dX6_name_2 : decode cX6_name 2 = .ok (.ifCond .lt 9, 3) := by decide +kernel
theorem dX6_name_5 : decode cX6_name 5 = .ok (.iload_n 1, 1) := by decide +kernel
theorem dX6_name_6 : decode cX6_name 6 = .ok (.bipush 40, 2) := by decide +kernel
theorem dX6_name_8 : decode cX6_name 8 = .ok (.if_icmp .lt 7, 3) := by decide +kernel
theorem dX6_name_11 : decode cX6_name 11 = .ok (.iconst 1, 1) := by decide +kernel
theorem dX6_name_12 : decode cX6_name 12 = .ok (.goto 4, 3) := by decide +kernel
theorem dX6_name_15 : decode cX6_name 15 = .ok (.iconst 0, 1) := by decide +kernel
theorem dX6_name_16 : decode cX6_name 16 = .ok (.putfield 75, 3) := by decide +kernel
theorem dX6_name_19 : decode cX6_name 19 = .ok (.aload_n 0, 1) := by decide +kernel
theorem dX6_name_20 : decode cX6_name 20 = .ok (.getfield 75, 3) := by decide +kernel
theorem dX6_name_23 : decode cX6_name 23 = .ok (.ifCond .gt 21, 3) := by decide +kernel
theorem dX6_name_26 : decode cX6_name 26 = .ok (.iload_n 2, 1) := by decide +kernel
theorem dX6_name_27 : decode cX6_name 27 = .ok (.invokestatic 79, 3) := by decide +kernel
theorem dX6_name_30 : decode cX6_name 30 = .ok (.ifCond .eq 14, 3) := by decide +kernel
theorem dX6_name_33 : decode cX6_name 33 = .ok (.aload_n 0, 1) := by decide +kernel
theorem dX6_name_34 : decode cX6_name 34 = .ok (.getfield 13, 3) := by decide +kernel
theorem dX6_name_37 : decode cX6_name 37 = .ok (.iload_n 1, 1) := by decide +kernel
theorem dX6_name_38 : decode cX6_name 38 = .ok (.iaload, 1) := by decide +kernel
theorem dX6_name_39 : decode cX6_name 39 = .ok (.bipush 16, 2) := by decide +kernel
theorem dX6_name_41 : decode cX6_name 41 = .ok (.if_icmp .ne 5, 3) := by decide +kernel
theorem dX6_name_44 : decode cX6_name 44 = .ok (.iconst 0, 1) := by decide +kernel
theorem dX6_name_45 : decode cX6_name 45 = .ok (.ireturn, 1) := by decide +kernel
theorem dX6_name_46 : decode cX6_name 46 = .ok (.aload_n 0, 1) := by decide +kernel
theorem dX6_name_47 : decode cX6_name 47 = .ok (.getfield 7, 3) := by decide +kernel
theorem dX6_name_50 : decode cX6_name 50 = .ok (.bipush 16, 2) := by decide +kernel
theorem dX6_name_52 : decode cX6_name 52 = .ok (.iload_n 1, 1) := by decide +kernel
theorem dX6_name_53 : decode cX6_name 53 = .ok (.imul, 1) := by decide +kernel
theorem dX6_name_54 : decode cX6_name 54 = .ok (.aload_n 0, 1) := by decide +kernel
theorem dX6_name_55 : decode cX6_name 55 = .ok (.getfield 13, 3) := by decide +kernel
theorem dX6_name_58 : decode cX6_name 58 = .ok (.iload_n 1, 1) := by decide +kernel
theorem dX6_name_59 : decode cX6_name 59 = .ok (.iaload, 1) := by decide +kernel
theorem dX6_name_60 : decode cX6_name 60 = .ok (.iadd, 1) := by decide +kernel
theorem dX6_name_61 : decode cX6_name 61 = .ok (.iload_n 2, 1) := by decide +kernel
theorem dX6_name_62 : decode cX6_name 62 = .ok (.iastore, 1) := by decide +kernel
theorem dX6_name_63 : decode cX6_name 63 = .ok (.aload_n 0, 1) := by decide +kernel
theorem dX6_name_64 : decode cX6_name 64 = .ok (.getfield 13, 3) := by decide +kernel
theorem dX6_name_67 : decode cX6_name 67 = .ok (.iload_n 1, 1) := by decide +kernel
theorem dX6_name_68 : decode cX6_name 68 = .ok (.dup2, 1) := by decide +kernel
theorem dX6_name_69 : decode cX6_name 69 = .ok (.iaload, 1) := by decide +kernel
theorem dX6_name_70 : decode cX6_name 70 = .ok (.iconst 1, 1) := by decide +kernel
theorem dX6_name_71 : decode cX6_name 71 = .ok (.iadd, 1) := by decide +kernel
theorem dX6_name_72 : decode cX6_name 72 = .ok (.iastore, 1) := by decide +kernel
theorem dX6_name_73 : decode cX6_name 73 = .ok (.iconst 1, 1) := by decide +kernel
theorem dX6_name_74 : decode cX6_name 74 = .ok (.ireturn, 1) := by decide +kernel
theorem dX6_isCharacter_0 : decode cX6_isCharacter 0 = .ok (.iload_n 0, 1) := by decide +kernel
theorem dX6_isCharacter_1 : decode cX6_isCharacter 1 = .ok (.bipush 32, 2) := by decide +kernel
theorem dX6_isCharacter_3 : decode cX6_isCharacter 3 = .ok (.if_icmp .lt 9, 3) := by decide +kernel
theorem dX6_isCharacter_6 : decode cX6_isCharacter 6 = .ok (.iload_n 0, 1) := by decide +kernel
theorem dX6_isCharacter_7 : decode cX6_isCharacter 7 = .ok (.bipush 126, 2) := by decide +kernel
theorem dX6_isCharacter_9 : decode cX6_isCharacter 9 = .ok (.if_icmp .le 9, 3) := by decide +kernel
theorem dX6_isCharacter_12 : decode cX6_isCharacter 12 = .ok (.iload_n 0, 1) := by decide +kernel
theorem dX6_isCharacter_13 : decode cX6_isCharacter 13 = .ok (.bipush 10, 2) := by decide +kernel
theorem dX6_isCharacter_15 : decode cX6_isCharacter 15 = .ok (.if_icmp .ne 7, 3) := by decide +kernel
theorem dX6_isCharacter_18 : decode cX6_isCharacter 18 = .ok (.iconst 1, 1) := by decide +kernel
theorem dX6_isCharacter_19 : decode cX6_isCharacter 19 = .ok (.goto 4, 3) := by decide +kernel
theorem dX6_isCharacter_22 : decode cX6_isCharacter 22 = .ok (.iconst 0, 1) := by decide +kernel
theorem dX6_isCharacter_23 : decode cX6_isCharacter 23 = .ok (.ireturn, 1) := by decide +kernel
theorem dX6_unit_0 : decode cX6_unit 0 = .ok (.aload_n 0, 1) := by decide +kernel
theorem dX6_unit_1 : decode cX6_unit 1 = .ok (.iconst 0, 1) := by decide +kernel
theorem dX6_unit_2 : decode cX6_unit 2 = .ok (.putfield 75, 3) := by decide +kernel
theorem dX6_unit_5 : decode cX6_unit 5 = .ok (.iload_n 1, 1) := by decide +kernel
theorem dX6_unit_6 : decode cX6_unit 6 = .ok (.invokestatic 83, 3) := by decide +kernel
theorem dX6_unit_9 : decode cX6_unit 9 = .ok (.ifCond .eq 13, 3) := by decide +kernel
theorem dX6_unit_12 : decode cX6_unit 12 = .ok (.aload_n 0, 1) := by decide +kernel
theorem dX6_unit_13 : decode cX6_unit 13 = .ok (.getfield 86, 3) := by decide +kernel
theorem dX6_unit_16 : decode cX6_unit 16 = .ok (.sipush 1200, 3) := by decide +kernel
theorem dX6_unit_19 : decode cX6_unit 19 = .ok (.if_icmp .ne 5, 3) := by decide +kernel
theorem dX6_unit_22 : decode cX6_unit 22 = .ok (.iconst 0, 1) := by decide +kernel
theorem dX6_unit_23 : decode cX6_unit 23 = .ok (.ireturn, 1) := by decide +kernel
theorem dX6_unit_24 : decode cX6_unit 24 = .ok (.aload_n 0, 1) := by decide +kernel
theorem dX6_unit_25 : decode cX6_unit 25 = .ok (.getfield 16, 3) := by decide +kernel
theorem dX6_unit_28 : decode cX6_unit 28 = .ok (.aload_n 0, 1) := by decide +kernel
theorem dX6_unit_29 : decode cX6_unit 29 = .ok (.getfield 86, 3) := by decide +kernel
theorem dX6_unit_32 : decode cX6_unit 32 = .ok (.iload_n 1, 1) := by decide +kernel
theorem dX6_unit_33 : decode cX6_unit 33 = .ok (.iastore, 1) := by decide +kernel
theorem dX6_unit_34 : decode cX6_unit 34 = .ok (.aload_n 0, 1) := by decide +kernel
theorem dX6_unit_35 : decode cX6_unit 35 = .ok (.dup, 1) := by decide +kernel
theorem dX6_unit_36 : decode cX6_unit 36 = .ok (.getfield 86, 3) := by decide +kernel
theorem dX6_unit_39 : decode cX6_unit 39 = .ok (.iconst 1, 1) := by decide +kernel
theorem dX6_unit_40 : decode cX6_unit 40 = .ok (.iadd, 1) := by decide +kernel
theorem dX6_unit_41 : decode cX6_unit 41 = .ok (.putfield 86, 3) := by decide +kernel
theorem dX6_unit_44 : decode cX6_unit 44 = .ok (.iconst 1, 1) := by decide +kernel
theorem dX6_unit_45 : decode cX6_unit 45 = .ok (.ireturn, 1) := by decide +kernel
theorem dX6_units_0 : decode cX6_units 0 = .ok (.aload_n 0, 1) := by decide +kernel
theorem dX6_units_1 : decode cX6_units 1 = .ok (.iconst 0, 1) := by decide +kernel
theorem dX6_units_2 : decode cX6_units 2 = .ok (.putfield 75, 3) := by decide +kernel
theorem dX6_units_5 : decode cX6_units 5 = .ok (.iconst 0, 1) := by decide +kernel
theorem dX6_units_6 : decode cX6_units 6 = .ok (.istore_n 2, 1) := by decide +kernel
theorem dX6_units_7 : decode cX6_units 7 = .ok (.bipush 24, 2) := by decide +kernel
theorem dX6_units_9 : decode cX6_units 9 = .ok (.istore_n 3, 1) := by decide +kernel
theorem dX6_units_10 : decode cX6_units 10 = .ok (.iload_n 3, 1) := by decide +kernel
theorem dX6_units_11 : decode cX6_units 11 = .ok (.ifCond .lt 46, 3) := by decide +kernel
theorem dX6_units_14 : decode cX6_units 14 = .ok (.iload_n 1, 1) := by decide +kernel
theorem dX6_units_15 : decode cX6_units 15 = .ok (.iload_n 3, 1) := by decide +kernel
theorem dX6_units_16 : decode cX6_units 16 = .ok (.iushr, 1) := by decide +kernel
theorem dX6_units_17 : decode cX6_units 17 = .ok (.sipush 255, 3) := by decide +kernel
theorem dX6_units_20 : decode cX6_units 20 = .ok (.iand, 1) := by decide +kernel
theorem dX6_units_21 : decode cX6_units 21 = .ok (.istore 4, 2) := by decide +kernel
theorem dX6_units_23 : decode cX6_units 23 = .ok (.iload 4, 2) := by decide +kernel
theorem dX6_units_25 : decode cX6_units 25 = .ok (.ifCond .eq 13, 3) := by decide +kernel
theorem dX6_units_28 : decode cX6_units 28 = .ok (.iload 4, 2) := by decide +kernel
theorem dX6_units_30 : decode cX6_units 30 = .ok (.invokestatic 83, 3) := by decide +kernel
theorem dX6_units_33 : decode cX6_units 33 = .ok (.ifCond .ne 5, 3) := by decide +kernel
theorem dX6_units_36 : decode cX6_units 36 = .ok (.iconst 0, 1) := by decide +kernel
theorem dX6_units_37 : decode cX6_units 37 = .ok (.ireturn, 1) := by decide +kernel
theorem dX6_units_38 : decode cX6_units 38 = .ok (.iload_n 2, 1) := by decide +kernel
theorem dX6_units_39 : decode cX6_units 39 = .ok (.iload 4, 2) := by decide +kernel
theorem dX6_units_41 : decode cX6_units 41 = .ok (.ifCond .eq 7, 3) := by decide +kernel
theorem dX6_units_44 : decode cX6_units 44 = .ok (.iconst 1, 1) := by decide +kernel
theorem dX6_units_45 : decode cX6_units 45 = .ok (.goto 4, 3) := by decide +kernel
theorem dX6_units_48 : decode cX6_units 48 = .ok (.iconst 0, 1) := by decide +kernel
theorem dX6_units_49 : decode cX6_units 49 = .ok (.iadd, 1) := by decide +kernel
theorem dX6_units_50 : decode cX6_units 50 = .ok (.istore_n 2, 1) := by decide +kernel
theorem dX6_units_51 : decode cX6_units 51 = .ok (.iinc 3 (-8), 3) := by decide +kernel
theorem dX6_units_54 : decode cX6_units 54 = .ok (.goto (-44), 3) := by decide +kernel
theorem dX6_units_57 : decode cX6_units 57 = .ok (.aload_n 0, 1) := by decide +kernel
theorem dX6_units_58 : decode cX6_units 58 = .ok (.getfield 86, 3) := by decide +kernel
theorem dX6_units_61 : decode cX6_units 61 = .ok (.iload_n 2, 1) := by decide +kernel
theorem dX6_units_62 : decode cX6_units 62 = .ok (.iadd, 1) := by decide +kernel
theorem dX6_units_63 : decode cX6_units 63 = .ok (.sipush 1200, 3) := by decide +kernel
theorem dX6_units_66 : decode cX6_units 66 = .ok (.if_icmp .le 5, 3) := by decide +kernel
theorem dX6_units_69 : decode cX6_units 69 = .ok (.iconst 0, 1) := by decide +kernel
theorem dX6_units_70 : decode cX6_units 70 = .ok (.ireturn, 1) := by decide +kernel
theorem dX6_units_71 : decode cX6_units 71 = .ok (.bipush 24, 2) := by decide +kernel
theorem dX6_units_73 : decode cX6_units 73 = .ok (.istore_n 3, 1) := by decide +kernel
theorem dX6_units_74 : decode cX6_units 74 = .ok (.iload_n 3, 1) := by decide +kernel
theorem dX6_units_75 : decode cX6_units 75 = .ok (.ifCond .lt 45, 3) := by decide +kernel
theorem dX6_units_78 : decode cX6_units 78 = .ok (.iload_n 1, 1) := by decide +kernel
theorem dX6_units_79 : decode cX6_units 79 = .ok (.iload_n 3, 1) := by decide +kernel
theorem dX6_units_80 : decode cX6_units 80 = .ok (.iushr, 1) := by decide +kernel
theorem dX6_units_81 : decode cX6_units 81 = .ok (.sipush 255, 3) := by decide +kernel
theorem dX6_units_84 : decode cX6_units 84 = .ok (.iand, 1) := by decide +kernel
theorem dX6_units_85 : decode cX6_units 85 = .ok (.ifCond .eq 29, 3) := by decide +kernel
theorem dX6_units_88 : decode cX6_units 88 = .ok (.aload_n 0, 1) := by decide +kernel
theorem dX6_units_89 : decode cX6_units 89 = .ok (.getfield 16, 3) := by decide +kernel
theorem dX6_units_92 : decode cX6_units 92 = .ok (.aload_n 0, 1) := by decide +kernel
theorem dX6_units_93 : decode cX6_units 93 = .ok (.getfield 86, 3) := by decide +kernel
theorem dX6_units_96 : decode cX6_units 96 = .ok (.iload_n 1, 1) := by decide +kernel
theorem dX6_units_97 : decode cX6_units 97 = .ok (.iload_n 3, 1) := by decide +kernel
theorem dX6_units_98 : decode cX6_units 98 = .ok (.iushr, 1) := by decide +kernel
theorem dX6_units_99 : decode cX6_units 99 = .ok (.sipush 255, 3) := by decide +kernel
theorem dX6_units_102 : decode cX6_units 102 = .ok (.iand, 1) := by decide +kernel
theorem dX6_units_103 : decode cX6_units 103 = .ok (.iastore, 1) := by decide +kernel
theorem dX6_units_104 : decode cX6_units 104 = .ok (.aload_n 0, 1) := by decide +kernel
theorem dX6_units_105 : decode cX6_units 105 = .ok (.dup, 1) := by decide +kernel
theorem dX6_units_106 : decode cX6_units 106 = .ok (.getfield 86, 3) := by decide +kernel
theorem dX6_units_109 : decode cX6_units 109 = .ok (.iconst 1, 1) := by decide +kernel
theorem dX6_units_110 : decode cX6_units 110 = .ok (.iadd, 1) := by decide +kernel
theorem dX6_units_111 : decode cX6_units 111 = .ok (.putfield 86, 3) := by decide +kernel
theorem dX6_units_114 : decode cX6_units 114 = .ok (.iinc 3 (-8), 3) := by decide +kernel
theorem dX6_units_117 : decode cX6_units 117 = .ok (.goto (-43), 3) := by decide +kernel
theorem dX6_units_120 : decode cX6_units 120 = .ok (.iconst 1, 1) := by decide +kernel
theorem dX6_units_121 : decode cX6_units 121 = .ok (.ireturn, 1) := by decide +kernel
theorem dX6_next_0 : decode cX6_next 0 = .ok (.aload_n 0, 1) := by decide +kernel
theorem dX6_next_1 : decode cX6_next 1 = .ok (.aload_n 0, 1) := by decide +kernel
theorem dX6_next_2 : decode cX6_next 2 = .ok (.getfield 89, 3) := by decide +kernel
theorem dX6_next_5 : decode cX6_next 5 = .ok (.putfield 92, 3) := by decide +kernel
theorem dX6_next_8 : decode cX6_next 8 = .ok (.aload_n 0, 1) := by decide +kernel
theorem dX6_next_9 : decode cX6_next 9 = .ok (.getfield 92, 3) := by decide +kernel
theorem dX6_next_12 : decode cX6_next 12 = .ok (.aload_n 0, 1) := by decide +kernel
theorem dX6_next_13 : decode cX6_next 13 = .ok (.getfield 86, 3) := by decide +kernel
theorem dX6_next_16 : decode cX6_next 16 = .ok (.if_icmp .ge 44, 3) := by decide +kernel
theorem dX6_next_19 : decode cX6_next 19 = .ok (.aload_n 0, 1) := by decide +kernel
theorem dX6_next_20 : decode cX6_next 20 = .ok (.getfield 16, 3) := by decide +kernel
theorem dX6_next_23 : decode cX6_next 23 = .ok (.aload_n 0, 1) := by decide +kernel
theorem dX6_next_24 : decode cX6_next 24 = .ok (.getfield 92, 3) := by decide +kernel
theorem dX6_next_27 : decode cX6_next 27 = .ok (.iaload, 1) := by decide +kernel
theorem dX6_next_28 : decode cX6_next 28 = .ok (.bipush 32, 2) := by decide +kernel
theorem dX6_next_30 : decode cX6_next 30 = .ok (.if_icmp .eq 17, 3) := by decide +kernel
theorem dX6_next_33 : decode cX6_next 33 = .ok (.aload_n 0, 1) := by decide +kernel
theorem dX6_next_34 : decode cX6_next 34 = .ok (.getfield 16, 3) := by decide +kernel
theorem dX6_next_37 : decode cX6_next 37 = .ok (.aload_n 0, 1) := by decide +kernel
theorem dX6_next_38 : decode cX6_next 38 = .ok (.getfield 92, 3) := by decide +kernel
theorem dX6_next_41 : decode cX6_next 41 = .ok (.iaload, 1) := by decide +kernel
theorem dX6_next_42 : decode cX6_next 42 = .ok (.bipush 10, 2) := by decide +kernel
theorem dX6_next_44 : decode cX6_next 44 = .ok (.if_icmp .ne 16, 3) := by decide +kernel
theorem dX6_next_47 : decode cX6_next 47 = .ok (.aload_n 0, 1) := by decide +kernel
theorem dX6_next_48 : decode cX6_next 48 = .ok (.dup, 1) := by decide +kernel
theorem dX6_next_49 : decode cX6_next 49 = .ok (.getfield 92, 3) := by decide +kernel
theorem dX6_next_52 : decode cX6_next 52 = .ok (.iconst 1, 1) := by decide +kernel
theorem dX6_next_53 : decode cX6_next 53 = .ok (.iadd, 1) := by decide +kernel
theorem dX6_next_54 : decode cX6_next 54 = .ok (.putfield 92, 3) := by decide +kernel
theorem dX6_next_57 : decode cX6_next 57 = .ok (.goto (-49), 3) := by decide +kernel
theorem dX6_next_60 : decode cX6_next 60 = .ok (.aload_n 0, 1) := by decide +kernel
theorem dX6_next_61 : decode cX6_next 61 = .ok (.aload_n 0, 1) := by decide +kernel
theorem dX6_next_62 : decode cX6_next 62 = .ok (.getfield 92, 3) := by decide +kernel
theorem dX6_next_65 : decode cX6_next 65 = .ok (.putfield 89, 3) := by decide +kernel
theorem dX6_next_68 : decode cX6_next 68 = .ok (.aload_n 0, 1) := by decide +kernel
theorem dX6_next_69 : decode cX6_next 69 = .ok (.getfield 92, 3) := by decide +kernel
theorem dX6_next_72 : decode cX6_next 72 = .ok (.aload_n 0, 1) := by decide +kernel
theorem dX6_next_73 : decode cX6_next 73 = .ok (.getfield 86, 3) := by decide +kernel
theorem dX6_next_76 : decode cX6_next 76 = .ok (.if_icmp .ge 28, 3) := by decide +kernel
theorem dX6_next_79 : decode cX6_next 79 = .ok (.aload_n 0, 1) := by decide +kernel
theorem dX6_next_80 : decode cX6_next 80 = .ok (.getfield 16, 3) := by decide +kernel
theorem dX6_next_83 : decode cX6_next 83 = .ok (.aload_n 0, 1) := by decide +kernel
theorem dX6_next_84 : decode cX6_next 84 = .ok (.getfield 92, 3) := by decide +kernel
theorem dX6_next_87 : decode cX6_next 87 = .ok (.iaload, 1) := by decide +kernel
theorem dX6_next_88 : decode cX6_next 88 = .ok (.bipush 59, 2) := by decide +kernel
theorem dX6_next_90 : decode cX6_next 90 = .ok (.if_icmp .ne 14, 3) := by decide +kernel
theorem dX6_next_93 : decode cX6_next 93 = .ok (.aload_n 0, 1) := by decide +kernel
theorem dX6_next_94 : decode cX6_next 94 = .ok (.dup, 1) := by decide +kernel
theorem dX6_next_95 : decode cX6_next 95 = .ok (.getfield 89, 3) := by decide +kernel
theorem dX6_next_98 : decode cX6_next 98 = .ok (.iconst 1, 1) := by decide +kernel
theorem dX6_next_99 : decode cX6_next 99 = .ok (.iadd, 1) := by decide +kernel
theorem dX6_next_100 : decode cX6_next 100 = .ok (.putfield 89, 3) := by decide +kernel
theorem dX6_next_103 : decode cX6_next 103 = .ok (.return_, 1) := by decide +kernel
theorem dX6_next_104 : decode cX6_next 104 = .ok (.aload_n 0, 1) := by decide +kernel
theorem dX6_next_105 : decode cX6_next 105 = .ok (.getfield 89, 3) := by decide +kernel
theorem dX6_next_108 : decode cX6_next 108 = .ok (.aload_n 0, 1) := by decide +kernel
theorem dX6_next_109 : decode cX6_next 109 = .ok (.getfield 86, 3) := by decide +kernel
theorem dX6_next_112 : decode cX6_next 112 = .ok (.if_icmp .ge 58, 3) := by decide +kernel
theorem dX6_next_115 : decode cX6_next 115 = .ok (.aload_n 0, 1) := by decide +kernel
theorem dX6_next_116 : decode cX6_next 116 = .ok (.getfield 16, 3) := by decide +kernel
theorem dX6_next_119 : decode cX6_next 119 = .ok (.aload_n 0, 1) := by decide +kernel
theorem dX6_next_120 : decode cX6_next 120 = .ok (.getfield 89, 3) := by decide +kernel
theorem dX6_next_123 : decode cX6_next 123 = .ok (.iaload, 1) := by decide +kernel
theorem dX6_next_124 : decode cX6_next 124 = .ok (.bipush 32, 2) := by decide +kernel
theorem dX6_next_126 : decode cX6_next 126 = .ok (.if_icmp .eq 44, 3) := by decide +kernel
theorem dX6_next_129 : decode cX6_next 129 = .ok (.aload_n 0, 1) := by decide +kernel
theorem dX6_next_130 : decode cX6_next 130 = .ok (.getfield 16, 3) := by decide +kernel
theorem dX6_next_133 : decode cX6_next 133 = .ok (.aload_n 0, 1) := by decide +kernel
theorem dX6_next_134 : decode cX6_next 134 = .ok (.getfield 89, 3) := by decide +kernel
theorem dX6_next_137 : decode cX6_next 137 = .ok (.iaload, 1) := by decide +kernel
theorem dX6_next_138 : decode cX6_next 138 = .ok (.bipush 10, 2) := by decide +kernel
theorem dX6_next_140 : decode cX6_next 140 = .ok (.if_icmp .eq 30, 3) := by decide +kernel
theorem dX6_next_143 : decode cX6_next 143 = .ok (.aload_n 0, 1) := by decide +kernel
theorem dX6_next_144 : decode cX6_next 144 = .ok (.getfield 16, 3) := by decide +kernel
theorem dX6_next_147 : decode cX6_next 147 = .ok (.aload_n 0, 1) := by decide +kernel
theorem dX6_next_148 : decode cX6_next 148 = .ok (.getfield 89, 3) := by decide +kernel
theorem dX6_next_151 : decode cX6_next 151 = .ok (.iaload, 1) := by decide +kernel
theorem dX6_next_152 : decode cX6_next 152 = .ok (.bipush 59, 2) := by decide +kernel
theorem dX6_next_154 : decode cX6_next 154 = .ok (.if_icmp .eq 16, 3) := by decide +kernel
theorem dX6_next_157 : decode cX6_next 157 = .ok (.aload_n 0, 1) := by decide +kernel
theorem dX6_next_158 : decode cX6_next 158 = .ok (.dup, 1) := by decide +kernel
theorem dX6_next_159 : decode cX6_next 159 = .ok (.getfield 89, 3) := by decide +kernel
theorem dX6_next_162 : decode cX6_next 162 = .ok (.iconst 1, 1) := by decide +kernel
theorem dX6_next_163 : decode cX6_next 163 = .ok (.iadd, 1) := by decide +kernel
theorem dX6_next_164 : decode cX6_next 164 = .ok (.putfield 89, 3) := by decide +kernel
theorem dX6_next_167 : decode cX6_next 167 = .ok (.goto (-63), 3) := by decide +kernel
theorem dX6_next_170 : decode cX6_next 170 = .ok (.return_, 1) := by decide +kernel
theorem dX6_take_0 : decode cX6_take 0 = .ok (.aload_n 0, 1) := by decide +kernel
theorem dX6_take_1 : decode cX6_take 1 = .ok (.aload_n 0, 1) := by decide +kernel
theorem dX6_take_2 : decode cX6_take 2 = .ok (.getfield 95, 3) := by decide +kernel
theorem dX6_take_5 : decode cX6_take 5 = .ok (.ifCond .eq 11, 3) := by decide +kernel
theorem dX6_take_8 : decode cX6_take 8 = .ok (.iload_n 1, 1) := by decide +kernel
theorem dX6_take_9 : decode cX6_take 9 = .ok (.ifCond .eq 7, 3) := by decide +kernel
theorem dX6_take_12 : decode cX6_take 12 = .ok (.iconst 1, 1) := by decide +kernel
theorem dX6_take_13 : decode cX6_take 13 = .ok (.goto 4, 3) := by decide +kernel
theorem dX6_take_16 : decode cX6_take 16 = .ok (.iconst 0, 1) := by decide +kernel
theorem dX6_take_17 : decode cX6_take 17 = .ok (.putfield 95, 3) := by decide +kernel
theorem dX6_take_20 : decode cX6_take 20 = .ok (.aload_n 0, 1) := by decide +kernel
theorem dX6_take_21 : decode cX6_take 21 = .ok (.getfield 95, 3) := by decide +kernel
theorem dX6_take_24 : decode cX6_take 24 = .ok (.ifCond .eq 7, 3) := by decide +kernel
theorem dX6_take_27 : decode cX6_take 27 = .ok (.aload_n 0, 1) := by decide +kernel
theorem dX6_take_28 : decode cX6_take 28 = .ok (.invokevirtual 99, 3) := by decide +kernel
theorem dX6_take_31 : decode cX6_take 31 = .ok (.return_, 1) := by decide +kernel
theorem dX6_takeEnd_0 : decode cX6_takeEnd 0 = .ok (.aload_n 0, 1) := by decide +kernel
theorem dX6_takeEnd_1 : decode cX6_takeEnd 1 = .ok (.aload_n 0, 1) := by decide +kernel
theorem dX6_takeEnd_2 : decode cX6_takeEnd 2 = .ok (.getfield 89, 3) := by decide +kernel
theorem dX6_takeEnd_5 : decode cX6_takeEnd 5 = .ok (.aload_n 0, 1) := by decide +kernel
theorem dX6_takeEnd_6 : decode cX6_takeEnd 6 = .ok (.getfield 92, 3) := by decide +kernel
theorem dX6_takeEnd_9 : decode cX6_takeEnd 9 = .ok (.iconst 1, 1) := by decide +kernel
theorem dX6_takeEnd_10 : decode cX6_takeEnd 10 = .ok (.iadd, 1) := by decide +kernel
theorem dX6_takeEnd_11 : decode cX6_takeEnd 11 = .ok (.if_icmp .ne 21, 3) := by decide +kernel
theorem dX6_takeEnd_14 : decode cX6_takeEnd 14 = .ok (.aload_n 0, 1) := by decide +kernel
theorem dX6_takeEnd_15 : decode cX6_takeEnd 15 = .ok (.getfield 16, 3) := by decide +kernel
theorem dX6_takeEnd_18 : decode cX6_takeEnd 18 = .ok (.aload_n 0, 1) := by decide +kernel
theorem dX6_takeEnd_19 : decode cX6_takeEnd 19 = .ok (.getfield 92, 3) := by decide +kernel
theorem dX6_takeEnd_22 : decode cX6_takeEnd 22 = .ok (.iaload, 1) := by decide +kernel
theorem dX6_takeEnd_23 : decode cX6_takeEnd 23 = .ok (.bipush 59, 2) := by decide +kernel
theorem dX6_takeEnd_25 : decode cX6_takeEnd 25 = .ok (.if_icmp .ne 7, 3) := by decide +kernel
theorem dX6_takeEnd_28 : decode cX6_takeEnd 28 = .ok (.iconst 1, 1) := by decide +kernel
theorem dX6_takeEnd_29 : decode cX6_takeEnd 29 = .ok (.goto 4, 3) := by decide +kernel
theorem dX6_takeEnd_32 : decode cX6_takeEnd 32 = .ok (.iconst 0, 1) := by decide +kernel
theorem dX6_takeEnd_33 : decode cX6_takeEnd 33 = .ok (.invokevirtual 102, 3) := by decide +kernel
theorem dX6_takeEnd_36 : decode cX6_takeEnd 36 = .ok (.return_, 1) := by decide +kernel
theorem dX6_wordName_0 : decode cX6_wordName 0 = .ok (.lconst 0, 1) := by decide +kernel
theorem dX6_wordName_1 : decode cX6_wordName 1 = .ok (.lstore_n 1, 1) := by decide +kernel
theorem dX6_wordName_2 : decode cX6_wordName 2 = .ok (.aload_n 0, 1) := by decide +kernel
theorem dX6_wordName_3 : decode cX6_wordName 3 = .ok (.getfield 89, 3) := by decide +kernel
theorem dX6_wordName_6 : decode cX6_wordName 6 = .ok (.aload_n 0, 1) := by decide +kernel
theorem dX6_wordName_7 : decode cX6_wordName 7 = .ok (.getfield 92, 3) := by decide +kernel
theorem dX6_wordName_10 : decode cX6_wordName 10 = .ok (.if_icmp .le 21, 3) := by decide +kernel
theorem dX6_wordName_13 : decode cX6_wordName 13 = .ok (.aload_n 0, 1) := by decide +kernel
theorem dX6_wordName_14 : decode cX6_wordName 14 = .ok (.getfield 89, 3) := by decide +kernel
theorem dX6_wordName_17 : decode cX6_wordName 17 = .ok (.aload_n 0, 1) := by decide +kernel
theorem dX6_wordName_18 : decode cX6_wordName 18 = .ok (.getfield 92, 3) := by decide +kernel
theorem dX6_wordName_21 : decode cX6_wordName 21 = .ok (.isub, 1) := by decide +kernel
theorem dX6_wordName_22 : decode cX6_wordName 22 = .ok (.bipush 8, 2) := by decide +kernel
theorem dX6_wordName_24 : decode cX6_wordName 24 = .ok (.if_icmp .gt 7, 3) := by decide +kernel
theorem dX6_wordName_27 : decode cX6_wordName 27 = .ok (.iconst 1, 1) := by decide +kernel
theorem dX6_wordName_28 : decode cX6_wordName 28 = .ok (.goto 4, 3) := by decide +kernel
theorem dX6_wordName_31 : decode cX6_wordName 31 = .ok (.iconst 0, 1) := by decide +kernel
theorem dX6_wordName_32 : decode cX6_wordName 32 = .ok (.istore_n 3, 1) := by decide +kernel
theorem dX6_wordName_33 : decode cX6_wordName 33 = .ok (.aload_n 0, 1) := by decide +kernel
theorem dX6_wordName_34 : decode cX6_wordName 34 = .ok (.getfield 92, 3) := by decide +kernel
theorem dX6_wordName_37 : decode cX6_wordName 37 = .ok (.istore 4, 2) := by decide +kernel
theorem dX6_wordName_39 : decode cX6_wordName 39 = .ok (.iload 4, 2) := by decide +kernel
theorem dX6_wordName_41 : decode cX6_wordName 41 = .ok (.aload_n 0, 1) := by decide +kernel
theorem dX6_wordName_42 : decode cX6_wordName 42 = .ok (.getfield 89, 3) := by decide +kernel
theorem dX6_wordName_45 : decode cX6_wordName 45 = .ok (.if_icmp .ge 62, 3) := by decide +kernel
theorem dX6_wordName_48 : decode cX6_wordName 48 = .ok (.iload_n 3, 1) := by decide +kernel
theorem dX6_wordName_49 : decode cX6_wordName 49 = .ok (.ifCond .eq 58, 3) := by decide +kernel
theorem dX6_wordName_52 : decode cX6_wordName 52 = .ok (.aload_n 0, 1) := by decide +kernel
theorem dX6_wordName_53 : decode cX6_wordName 53 = .ok (.getfield 16, 3) := by decide +kernel
theorem dX6_wordName_56 : decode cX6_wordName 56 = .ok (.iload 4, 2) := by decide +kernel
theorem dX6_wordName_58 : decode cX6_wordName 58 = .ok (.iaload, 1) := by decide +kernel
theorem dX6_wordName_59 : decode cX6_wordName 59 = .ok (.bipush 97, 2) := by decide +kernel
theorem dX6_wordName_61 : decode cX6_wordName 61 = .ok (.if_icmp .lt 19, 3) := by decide +kernel
theorem dX6_wordName_64 : decode cX6_wordName 64 = .ok (.aload_n 0, 1) := by decide +kernel
theorem dX6_wordName_65 : decode cX6_wordName 65 = .ok (.getfield 16, 3) := by decide +kernel
theorem dX6_wordName_68 : decode cX6_wordName 68 = .ok (.iload 4, 2) := by decide +kernel
theorem dX6_wordName_70 : decode cX6_wordName 70 = .ok (.iaload, 1) := by decide +kernel
theorem dX6_wordName_71 : decode cX6_wordName 71 = .ok (.bipush 122, 2) := by decide +kernel
theorem dX6_wordName_73 : decode cX6_wordName 73 = .ok (.if_icmp .gt 7, 3) := by decide +kernel
theorem dX6_wordName_76 : decode cX6_wordName 76 = .ok (.iconst 1, 1) := by decide +kernel
theorem dX6_wordName_77 : decode cX6_wordName 77 = .ok (.goto 4, 3) := by decide +kernel
theorem dX6_wordName_80 : decode cX6_wordName 80 = .ok (.iconst 0, 1) := by decide +kernel
theorem dX6_wordName_81 : decode cX6_wordName 81 = .ok (.istore_n 3, 1) := by decide +kernel
theorem dX6_wordName_82 : decode cX6_wordName 82 = .ok (.ldc2_w 106, 3) := by decide +kernel
theorem dX6_wordName_85 : decode cX6_wordName 85 = .ok (.lload_n 1, 1) := by decide +kernel
theorem dX6_wordName_86 : decode cX6_wordName 86 = .ok (.lmul, 1) := by decide +kernel
theorem dX6_wordName_87 : decode cX6_wordName 87 = .ok (.aload_n 0, 1) := by decide +kernel
theorem dX6_wordName_88 : decode cX6_wordName 88 = .ok (.getfield 16, 3) := by decide +kernel
theorem dX6_wordName_91 : decode cX6_wordName 91 = .ok (.iload 4, 2) := by decide +kernel
theorem dX6_wordName_93 : decode cX6_wordName 93 = .ok (.iaload, 1) := by decide +kernel
theorem dX6_wordName_94 : decode cX6_wordName 94 = .ok (.i2l, 1) := by decide +kernel
theorem dX6_wordName_95 : decode cX6_wordName 95 = .ok (.ladd, 1) := by decide +kernel
theorem dX6_wordName_96 : decode cX6_wordName 96 = .ok (.ldc2_w 108, 3) := by decide +kernel
theorem dX6_wordName_99 : decode cX6_wordName 99 = .ok (.lsub, 1) := by decide +kernel
theorem dX6_wordName_100 : decode cX6_wordName 100 = .ok (.lstore_n 1, 1) := by decide +kernel
theorem dX6_wordName_101 : decode cX6_wordName 101 = .ok (.iinc 4 1, 3) := by decide +kernel
theorem dX6_wordName_104 : decode cX6_wordName 104 = .ok (.goto (-65), 3) := by decide +kernel
theorem dX6_wordName_107 : decode cX6_wordName 107 = .ok (.iload_n 3, 1) := by decide +kernel
theorem dX6_wordName_108 : decode cX6_wordName 108 = .ok (.ifCond .eq 7, 3) := by decide +kernel
theorem dX6_wordName_111 : decode cX6_wordName 111 = .ok (.lload_n 1, 1) := by decide +kernel
theorem dX6_wordName_112 : decode cX6_wordName 112 = .ok (.goto 4, 3) := by decide +kernel
theorem dX6_wordName_115 : decode cX6_wordName 115 = .ok (.lconst 0, 1) := by decide +kernel
theorem dX6_wordName_116 : decode cX6_wordName 116 = .ok (.lreturn, 1) := by decide +kernel
theorem dX6_whole_0 : decode cX6_whole 0 = .ok (.iconst 0, 1) := by decide +kernel
theorem dX6_whole_1 : decode cX6_whole 1 = .ok (.istore_n 1, 1) := by decide +kernel
theorem dX6_whole_2 : decode cX6_whole 2 = .ok (.aload_n 0, 1) := by decide +kernel
theorem dX6_whole_3 : decode cX6_whole 3 = .ok (.getfield 89, 3) := by decide +kernel
theorem dX6_whole_6 : decode cX6_whole 6 = .ok (.aload_n 0, 1) := by decide +kernel
theorem dX6_whole_7 : decode cX6_whole 7 = .ok (.getfield 92, 3) := by decide +kernel
theorem dX6_whole_10 : decode cX6_whole 10 = .ok (.if_icmp .le 21, 3) := by decide +kernel
theorem dX6_whole_13 : decode cX6_whole 13 = .ok (.aload_n 0, 1) := by decide +kernel
theorem dX6_whole_14 : decode cX6_whole 14 = .ok (.getfield 89, 3) := by decide +kernel
theorem dX6_whole_17 : decode cX6_whole 17 = .ok (.aload_n 0, 1) := by decide +kernel
theorem dX6_whole_18 : decode cX6_whole 18 = .ok (.getfield 92, 3) := by decide +kernel
theorem dX6_whole_21 : decode cX6_whole 21 = .ok (.isub, 1) := by decide +kernel
theorem dX6_whole_22 : decode cX6_whole 22 = .ok (.bipush 6, 2) := by decide +kernel
theorem dX6_whole_24 : decode cX6_whole 24 = .ok (.if_icmp .gt 7, 3) := by decide +kernel
theorem dX6_whole_27 : decode cX6_whole 27 = .ok (.iconst 1, 1) := by decide +kernel
theorem dX6_whole_28 : decode cX6_whole 28 = .ok (.goto 4, 3) := by decide +kernel
theorem dX6_whole_31 : decode cX6_whole 31 = .ok (.iconst 0, 1) := by decide +kernel
theorem dX6_whole_32 : decode cX6_whole 32 = .ok (.istore_n 2, 1) := by decide +kernel
theorem dX6_whole_33 : decode cX6_whole 33 = .ok (.aload_n 0, 1) := by decide +kernel
theorem dX6_whole_34 : decode cX6_whole 34 = .ok (.getfield 92, 3) := by decide +kernel
theorem dX6_whole_37 : decode cX6_whole 37 = .ok (.istore_n 3, 1) := by decide +kernel
theorem dX6_whole_38 : decode cX6_whole 38 = .ok (.iload_n 3, 1) := by decide +kernel
theorem dX6_whole_39 : decode cX6_whole 39 = .ok (.aload_n 0, 1) := by decide +kernel
theorem dX6_whole_40 : decode cX6_whole 40 = .ok (.getfield 89, 3) := by decide +kernel
theorem dX6_whole_43 : decode cX6_whole 43 = .ok (.if_icmp .ge 56, 3) := by decide +kernel
theorem dX6_whole_46 : decode cX6_whole 46 = .ok (.iload_n 2, 1) := by decide +kernel
theorem dX6_whole_47 : decode cX6_whole 47 = .ok (.ifCond .eq 52, 3) := by decide +kernel
theorem dX6_whole_50 : decode cX6_whole 50 = .ok (.aload_n 0, 1) := by decide +kernel
theorem dX6_whole_51 : decode cX6_whole 51 = .ok (.getfield 16, 3) := by decide +kernel
theorem dX6_whole_54 : decode cX6_whole 54 = .ok (.iload_n 3, 1) := by decide +kernel
theorem dX6_whole_55 : decode cX6_whole 55 = .ok (.iaload, 1) := by decide +kernel
theorem dX6_whole_56 : decode cX6_whole 56 = .ok (.bipush 48, 2) := by decide +kernel
theorem dX6_whole_58 : decode cX6_whole 58 = .ok (.if_icmp .lt 18, 3) := by decide +kernel
theorem dX6_whole_61 : decode cX6_whole 61 = .ok (.aload_n 0, 1) := by decide +kernel
theorem dX6_whole_62 : decode cX6_whole 62 = .ok (.getfield 16, 3) := by decide +kernel
theorem dX6_whole_65 : decode cX6_whole 65 = .ok (.iload_n 3, 1) := by decide +kernel
theorem dX6_whole_66 : decode cX6_whole 66 = .ok (.iaload, 1) := by decide +kernel
theorem dX6_whole_67 : decode cX6_whole 67 = .ok (.bipush 57, 2) := by decide +kernel
theorem dX6_whole_69 : decode cX6_whole 69 = .ok (.if_icmp .gt 7, 3) := by decide +kernel
theorem dX6_whole_72 : decode cX6_whole 72 = .ok (.iconst 1, 1) := by decide +kernel
theorem dX6_whole_73 : decode cX6_whole 73 = .ok (.goto 4, 3) := by decide +kernel
theorem dX6_whole_76 : decode cX6_whole 76 = .ok (.iconst 0, 1) := by decide +kernel
theorem dX6_whole_77 : decode cX6_whole 77 = .ok (.istore_n 2, 1) := by decide +kernel
theorem dX6_whole_78 : decode cX6_whole 78 = .ok (.bipush 10, 2) := by decide +kernel
theorem dX6_whole_80 : decode cX6_whole 80 = .ok (.iload_n 1, 1) := by decide +kernel
theorem dX6_whole_81 : decode cX6_whole 81 = .ok (.imul, 1) := by decide +kernel
theorem dX6_whole_82 : decode cX6_whole 82 = .ok (.aload_n 0, 1) := by decide +kernel
theorem dX6_whole_83 : decode cX6_whole 83 = .ok (.getfield 16, 3) := by decide +kernel
theorem dX6_whole_86 : decode cX6_whole 86 = .ok (.iload_n 3, 1) := by decide +kernel
theorem dX6_whole_87 : decode cX6_whole 87 = .ok (.iaload, 1) := by decide +kernel
theorem dX6_whole_88 : decode cX6_whole 88 = .ok (.iadd, 1) := by decide +kernel
theorem dX6_whole_89 : decode cX6_whole 89 = .ok (.bipush 48, 2) := by decide +kernel
theorem dX6_whole_91 : decode cX6_whole 91 = .ok (.isub, 1) := by decide +kernel
theorem dX6_whole_92 : decode cX6_whole 92 = .ok (.istore_n 1, 1) := by decide +kernel
theorem dX6_whole_93 : decode cX6_whole 93 = .ok (.iinc 3 1, 3) := by decide +kernel
theorem dX6_whole_96 : decode cX6_whole 96 = .ok (.goto (-58), 3) := by decide +kernel
theorem dX6_whole_99 : decode cX6_whole 99 = .ok (.iload_n 2, 1) := by decide +kernel
theorem dX6_whole_100 : decode cX6_whole 100 = .ok (.ifCond .eq 7, 3) := by decide +kernel
theorem dX6_whole_103 : decode cX6_whole 103 = .ok (.iload_n 1, 1) := by decide +kernel
theorem dX6_whole_104 : decode cX6_whole 104 = .ok (.goto 4, 3) := by decide +kernel
theorem dX6_whole_107 : decode cX6_whole 107 = .ok (.iconst (-1), 1) := by decide +kernel
theorem dX6_whole_108 : decode cX6_whole 108 = .ok (.ireturn, 1) := by decide +kernel
theorem dX6_isPattern_0 : decode cX6_isPattern 0 = .ok (.aload_n 0, 1) := by decide +kernel
theorem dX6_isPattern_1 : decode cX6_isPattern 1 = .ok (.getfield 89, 3) := by decide +kernel
theorem dX6_isPattern_4 : decode cX6_isPattern 4 = .ok (.aload_n 0, 1) := by decide +kernel
theorem dX6_isPattern_5 : decode cX6_isPattern 5 = .ok (.getfield 92, 3) := by decide +kernel
theorem dX6_isPattern_8 : decode cX6_isPattern 8 = .ok (.if_icmp .le 21, 3) := by decide +kernel
theorem dX6_isPattern_11 : decode cX6_isPattern 11 = .ok (.aload_n 0, 1) := by decide +kernel
theorem dX6_isPattern_12 : decode cX6_isPattern 12 = .ok (.getfield 89, 3) := by decide +kernel
theorem dX6_isPattern_15 : decode cX6_isPattern 15 = .ok (.aload_n 0, 1) := by decide +kernel
theorem dX6_isPattern_16 : decode cX6_isPattern 16 = .ok (.getfield 92, 3) := by decide +kernel
theorem dX6_isPattern_19 : decode cX6_isPattern 19 = .ok (.isub, 1) := by decide +kernel
theorem dX6_isPattern_20 : decode cX6_isPattern 20 = .ok (.bipush 16, 2) := by decide +kernel
theorem dX6_isPattern_22 : decode cX6_isPattern 22 = .ok (.if_icmp .gt 7, 3) := by decide +kernel
theorem dX6_isPattern_25 : decode cX6_isPattern 25 = .ok (.iconst 1, 1) := by decide +kernel
theorem dX6_isPattern_26 : decode cX6_isPattern 26 = .ok (.goto 4, 3) := by decide +kernel
theorem dX6_isPattern_29 : decode cX6_isPattern 29 = .ok (.iconst 0, 1) := by decide +kernel
theorem dX6_isPattern_30 : decode cX6_isPattern 30 = .ok (.istore_n 1, 1) := by decide +kernel
theorem dX6_isPattern_31 : decode cX6_isPattern 31 = .ok (.aload_n 0, 1) := by decide +kernel
theorem dX6_isPattern_32 : decode cX6_isPattern 32 = .ok (.getfield 92, 3) := by decide +kernel
theorem dX6_isPattern_35 : decode cX6_isPattern 35 = .ok (.istore_n 2, 1) := by decide +kernel
theorem dX6_isPattern_36 : decode cX6_isPattern 36 = .ok (.iload_n 2, 1) := by decide +kernel
theorem dX6_isPattern_37 : decode cX6_isPattern 37 = .ok (.aload_n 0, 1) := by decide +kernel
theorem dX6_isPattern_38 : decode cX6_isPattern 38 = .ok (.getfield 89, 3) := by decide +kernel
theorem dX6_isPattern_41 : decode cX6_isPattern 41 = .ok (.if_icmp .ge 53, 3) := by decide +kernel
theorem dX6_isPattern_44 : decode cX6_isPattern 44 = .ok (.iload_n 1, 1) := by decide +kernel
theorem dX6_isPattern_45 : decode cX6_isPattern 45 = .ok (.ifCond .eq 49, 3) := by decide +kernel
theorem dX6_isPattern_48 : decode cX6_isPattern 48 = .ok (.aload_n 0, 1) := by decide +kernel
theorem dX6_isPattern_49 : decode cX6_isPattern 49 = .ok (.getfield 16, 3) := by decide +kernel
theorem dX6_isPattern_52 : decode cX6_isPattern 52 = .ok (.iload_n 2, 1) := by decide +kernel
theorem dX6_isPattern_53 : decode cX6_isPattern 53 = .ok (.iaload, 1) := by decide +kernel
theorem dX6_isPattern_54 : decode cX6_isPattern 54 = .ok (.invokestatic 79, 3) := by decide +kernel
theorem dX6_isPattern_57 : decode cX6_isPattern 57 = .ok (.ifCond .ne 25, 3) := by decide +kernel
theorem dX6_isPattern_60 : decode cX6_isPattern 60 = .ok (.aload_n 0, 1) := by decide +kernel
theorem dX6_isPattern_61 : decode cX6_isPattern 61 = .ok (.getfield 16, 3) := by decide +kernel
theorem dX6_isPattern_64 : decode cX6_isPattern 64 = .ok (.iload_n 2, 1) := by decide +kernel
theorem dX6_isPattern_65 : decode cX6_isPattern 65 = .ok (.iaload, 1) := by decide +kernel
theorem dX6_isPattern_66 : decode cX6_isPattern 66 = .ok (.bipush 42, 2) := by decide +kernel
theorem dX6_isPattern_68 : decode cX6_isPattern 68 = .ok (.if_icmp .eq 14, 3) := by decide +kernel
theorem dX6_isPattern_71 : decode cX6_isPattern 71 = .ok (.aload_n 0, 1) := by decide +kernel
theorem dX6_isPattern_72 : decode cX6_isPattern 72 = .ok (.getfield 16, 3) := by decide +kernel
theorem dX6_isPattern_75 : decode cX6_isPattern 75 = .ok (.iload_n 2, 1) := by decide +kernel
theorem dX6_isPattern_76 : decode cX6_isPattern 76 = .ok (.iaload, 1) := by decide +kernel
theorem dX6_isPattern_77 : decode cX6_isPattern 77 = .ok (.bipush 63, 2) := by decide +kernel
theorem dX6_isPattern_79 : decode cX6_isPattern 79 = .ok (.if_icmp .ne 7, 3) := by decide +kernel
theorem dX6_isPattern_82 : decode cX6_isPattern 82 = .ok (.iconst 1, 1) := by decide +kernel
theorem dX6_isPattern_83 : decode cX6_isPattern 83 = .ok (.goto 4, 3) := by decide +kernel
theorem dX6_isPattern_86 : decode cX6_isPattern 86 = .ok (.iconst 0, 1) := by decide +kernel
theorem dX6_isPattern_87 : decode cX6_isPattern 87 = .ok (.istore_n 1, 1) := by decide +kernel
theorem dX6_isPattern_88 : decode cX6_isPattern 88 = .ok (.iinc 2 1, 3) := by decide +kernel
theorem dX6_isPattern_91 : decode cX6_isPattern 91 = .ok (.goto (-55), 3) := by decide +kernel
theorem dX6_isPattern_94 : decode cX6_isPattern 94 = .ok (.iload_n 1, 1) := by decide +kernel
theorem dX6_isPattern_95 : decode cX6_isPattern 95 = .ok (.ireturn, 1) := by decide +kernel
theorem dX6_takeWhole_0 : decode cX6_takeWhole 0 = .ok (.aload_n 0, 1) := by decide +kernel
theorem dX6_takeWhole_1 : decode cX6_takeWhole 1 = .ok (.invokevirtual 110, 3) := by decide +kernel
theorem dX6_takeWhole_4 : decode cX6_takeWhole 4 = .ok (.istore_n 3, 1) := by decide +kernel
theorem dX6_takeWhole_5 : decode cX6_takeWhole 5 = .ok (.aload_n 0, 1) := by decide +kernel
theorem dX6_takeWhole_6 : decode cX6_takeWhole 6 = .ok (.iload_n 3, 1) := by decide +kernel
theorem dX6_takeWhole_7 : decode cX6_takeWhole 7 = .ok (.iload_n 1, 1) := by decide +kernel
theorem dX6_takeWhole_8 : decode cX6_takeWhole 8 = .ok (.if_icmp .lt 12, 3) := by decide +kernel
theorem dX6_takeWhole_11 : decode cX6_takeWhole 11 = .ok (.iload_n 3, 1) := by decide +kernel
theorem dX6_takeWhole_12 : decode cX6_takeWhole 12 = .ok (.iload_n 2, 1) := by decide +kernel
theorem dX6_takeWhole_13 : decode cX6_takeWhole 13 = .ok (.if_icmp .gt 7, 3) := by decide +kernel
theorem dX6_takeWhole_16 : decode cX6_takeWhole 16 = .ok (.iconst 1, 1) := by decide +kernel
theorem dX6_takeWhole_17 : decode cX6_takeWhole 17 = .ok (.goto 4, 3) := by decide +kernel
theorem dX6_takeWhole_20 : decode cX6_takeWhole 20 = .ok (.iconst 0, 1) := by decide +kernel
theorem dX6_takeWhole_21 : decode cX6_takeWhole 21 = .ok (.invokevirtual 102, 3) := by decide +kernel
theorem dX6_takeWhole_24 : decode cX6_takeWhole 24 = .ok (.iload_n 3, 1) := by decide +kernel
theorem dX6_takeWhole_25 : decode cX6_takeWhole 25 = .ok (.ireturn, 1) := by decide +kernel
theorem dX6_takePattern_0 : decode cX6_takePattern 0 = .ok (.iload_n 3, 1) := by decide +kernel
theorem dX6_takePattern_1 : decode cX6_takePattern 1 = .ok (.ifCond .eq 34, 3) := by decide +kernel
theorem dX6_takePattern_4 : decode cX6_takePattern 4 = .ok (.aload_n 0, 1) := by decide +kernel
theorem dX6_takePattern_5 : decode cX6_takePattern 5 = .ok (.getfield 89, 3) := by decide +kernel
theorem dX6_takePattern_8 : decode cX6_takePattern 8 = .ok (.aload_n 0, 1) := by decide +kernel
theorem dX6_takePattern_9 : decode cX6_takePattern 9 = .ok (.getfield 92, 3) := by decide +kernel
theorem dX6_takePattern_12 : decode cX6_takePattern 12 = .ok (.iconst 1, 1) := by decide +kernel
theorem dX6_takePattern_13 : decode cX6_takePattern 13 = .ok (.iadd, 1) := by decide +kernel
theorem dX6_takePattern_14 : decode cX6_takePattern 14 = .ok (.if_icmp .ne 21, 3) := by decide +kernel
theorem dX6_takePattern_17 : decode cX6_takePattern 17 = .ok (.aload_n 0, 1) := by decide +kernel
theorem dX6_takePattern_18 : decode cX6_takePattern 18 = .ok (.getfield 16, 3) := by decide +kernel
theorem dX6_takePattern_21 : decode cX6_takePattern 21 = .ok (.aload_n 0, 1) := by decide +kernel
theorem dX6_takePattern_22 : decode cX6_takePattern 22 = .ok (.getfield 92, 3) := by decide +kernel
theorem dX6_takePattern_25 : decode cX6_takePattern 25 = .ok (.iaload, 1) := by decide +kernel
theorem dX6_takePattern_26 : decode cX6_takePattern 26 = .ok (.bipush 45, 2) := by decide +kernel
theorem dX6_takePattern_28 : decode cX6_takePattern 28 = .ok (.if_icmp .ne 7, 3) := by decide +kernel
theorem dX6_takePattern_31 : decode cX6_takePattern 31 = .ok (.iconst 1, 1) := by decide +kernel
theorem dX6_takePattern_32 : decode cX6_takePattern 32 = .ok (.goto 4, 3) := by decide +kernel
theorem dX6_takePattern_35 : decode cX6_takePattern 35 = .ok (.iconst 0, 1) := by decide +kernel
theorem dX6_takePattern_36 : decode cX6_takePattern 36 = .ok (.istore 4, 2) := by decide +kernel
theorem dX6_takePattern_38 : decode cX6_takePattern 38 = .ok (.iconst 3, 1) := by decide +kernel
theorem dX6_takePattern_39 : decode cX6_takePattern 39 = .ok (.iload_n 1, 1) := by decide +kernel
theorem dX6_takePattern_40 : decode cX6_takePattern 40 = .ok (.imul, 1) := by decide +kernel
theorem dX6_takePattern_41 : decode cX6_takePattern 41 = .ok (.iload_n 2, 1) := by decide +kernel
theorem dX6_takePattern_42 : decode cX6_takePattern 42 = .ok (.iadd, 1) := by decide +kernel
theorem dX6_takePattern_43 : decode cX6_takePattern 43 = .ok (.istore 5, 2) := by decide +kernel
theorem dX6_takePattern_45 : decode cX6_takePattern 45 = .ok (.aload_n 0, 1) := by decide +kernel
theorem dX6_takePattern_46 : decode cX6_takePattern 46 = .ok (.getfield 41, 3) := by decide +kernel
theorem dX6_takePattern_49 : decode cX6_takePattern 49 = .ok (.iload 5, 2) := by decide +kernel
theorem dX6_takePattern_51 : decode cX6_takePattern 51 = .ok (.iconst 0, 1) := by decide +kernel
theorem dX6_takePattern_52 : decode cX6_takePattern 52 = .ok (.iastore, 1) := by decide +kernel
theorem dX6_takePattern_53 : decode cX6_takePattern 53 = .ok (.aload_n 0, 1) := by decide +kernel
theorem dX6_takePattern_54 : decode cX6_takePattern 54 = .ok (.getfield 92, 3) := by decide +kernel
theorem dX6_takePattern_57 : decode cX6_takePattern 57 = .ok (.istore 6, 2) := by decide +kernel
theorem dX6_takePattern_59 : decode cX6_takePattern 59 = .ok (.iload 6, 2) := by decide +kernel
theorem dX6_takePattern_61 : decode cX6_takePattern 61 = .ok (.aload_n 0, 1) := by decide +kernel
theorem dX6_takePattern_62 : decode cX6_takePattern 62 = .ok (.getfield 89, 3) := by decide +kernel
theorem dX6_takePattern_65 : decode cX6_takePattern 65 = .ok (.if_icmp .ge 57, 3) := by decide +kernel
theorem dX6_takePattern_68 : decode cX6_takePattern 68 = .ok (.iload 4, 2) := by decide +kernel
theorem dX6_takePattern_70 : decode cX6_takePattern 70 = .ok (.ifCond .ne 52, 3) := by decide +kernel
theorem dX6_takePattern_73 : decode cX6_takePattern 73 = .ok (.aload_n 0, 1) := by decide +kernel
theorem dX6_takePattern_74 : decode cX6_takePattern 74 = .ok (.invokevirtual 114, 3) := by decide +kernel
theorem dX6_takePattern_77 : decode cX6_takePattern 77 = .ok (.ifCond .eq 45, 3) := by decide +kernel
theorem dX6_takePattern_80 : decode cX6_takePattern 80 = .ok (.aload_n 0, 1) := by decide +kernel
theorem dX6_takePattern_81 : decode cX6_takePattern 81 = .ok (.getfield 38, 3) := by decide +kernel
theorem dX6_takePattern_84 : decode cX6_takePattern 84 = .ok (.bipush 16, 2) := by decide +kernel
theorem dX6_takePattern_86 : decode cX6_takePattern 86 = .ok (.iload 5, 2) := by decide +kernel
theorem dX6_takePattern_88 : decode cX6_takePattern 88 = .ok (.imul, 1) := by decide +kernel
theorem dX6_takePattern_89 : decode cX6_takePattern 89 = .ok (.aload_n 0, 1) := by decide +kernel
theorem dX6_takePattern_90 : decode cX6_takePattern 90 = .ok (.getfield 41, 3) := by decide +kernel
theorem dX6_takePattern_93 : decode cX6_takePattern 93 = .ok (.iload 5, 2) := by decide +kernel
theorem dX6_takePattern_95 : decode cX6_takePattern 95 = .ok (.iaload, 1) := by decide +kernel
theorem dX6_takePattern_96 : decode cX6_takePattern 96 = .ok (.iadd, 1) := by decide +kernel
theorem dX6_takePattern_97 : decode cX6_takePattern 97 = .ok (.aload_n 0, 1) := by decide +kernel
theorem dX6_takePattern_98 : decode cX6_takePattern 98 = .ok (.getfield 16, 3) := by decide +kernel
theorem dX6_takePattern_101 : decode cX6_takePattern 101 = .ok (.iload 6, 2) := by decide +kernel
theorem dX6_takePattern_103 : decode cX6_takePattern 103 = .ok (.iaload, 1) := by decide +kernel
theorem dX6_takePattern_104 : decode cX6_takePattern 104 = .ok (.iastore, 1) := by decide +kernel
theorem dX6_takePattern_105 : decode cX6_takePattern 105 = .ok (.aload_n 0, 1) := by decide +kernel
theorem dX6_takePattern_106 : decode cX6_takePattern 106 = .ok (.getfield 41, 3) := by decide +kernel
theorem dX6_takePattern_109 : decode cX6_takePattern 109 = .ok (.iload 5, 2) := by decide +kernel
theorem dX6_takePattern_111 : decode cX6_takePattern 111 = .ok (.dup2, 1) := by decide +kernel
theorem dX6_takePattern_112 : decode cX6_takePattern 112 = .ok (.iaload, 1) := by decide +kernel
theorem dX6_takePattern_113 : decode cX6_takePattern 113 = .ok (.iconst 1, 1) := by decide +kernel
theorem dX6_takePattern_114 : decode cX6_takePattern 114 = .ok (.iadd, 1) := by decide +kernel
theorem dX6_takePattern_115 : decode cX6_takePattern 115 = .ok (.iastore, 1) := by decide +kernel
theorem dX6_takePattern_116 : decode cX6_takePattern 116 = .ok (.iinc 6 1, 3) := by decide +kernel
theorem dX6_takePattern_119 : decode cX6_takePattern 119 = .ok (.goto (-60), 3) := by decide +kernel
theorem dX6_takePattern_122 : decode cX6_takePattern 122 = .ok (.aload_n 0, 1) := by decide +kernel
theorem dX6_takePattern_123 : decode cX6_takePattern 123 = .ok (.iload 4, 2) := by decide +kernel
theorem dX6_takePattern_125 : decode cX6_takePattern 125 = .ok (.ifCond .ne 10, 3) := by decide +kernel
theorem dX6_takePattern_128 : decode cX6_takePattern 128 = .ok (.aload_n 0, 1) := by decide +kernel
theorem dX6_takePattern_129 : decode cX6_takePattern 129 = .ok (.invokevirtual 114, 3) := by decide +kernel
theorem dX6_takePattern_132 : decode cX6_takePattern 132 = .ok (.ifCond .eq 7, 3) := by decide +kernel
theorem dX6_takePattern_135 : decode cX6_takePattern 135 = .ok (.iconst 1, 1) := by decide +kernel
theorem dX6_takePattern_136 : decode cX6_takePattern 136 = .ok (.goto 4, 3) := by decide +kernel
theorem dX6_takePattern_139 : decode cX6_takePattern 139 = .ok (.iconst 0, 1) := by decide +kernel
theorem dX6_takePattern_140 : decode cX6_takePattern 140 = .ok (.invokevirtual 102, 3) := by decide +kernel
theorem dX6_takePattern_143 : decode cX6_takePattern 143 = .ok (.return_, 1) := by decide +kernel
theorem dX6_word_0 : decode cX6_word 0 = .ok (.iload_n 0, 1) := by decide +kernel
theorem dX6_word_1 : decode cX6_word 1 = .ok (.i2l, 1) := by decide +kernel
theorem dX6_word_2 : decode cX6_word 2 = .ok (.ldc2_w 108, 3) := by decide +kernel
theorem dX6_word_5 : decode cX6_word 5 = .ok (.lsub, 1) := by decide +kernel
theorem dX6_word_6 : decode cX6_word 6 = .ok (.lstore 6, 2) := by decide +kernel
theorem dX6_word_8 : decode cX6_word 8 = .ok (.ldc2_w 106, 3) := by decide +kernel
theorem dX6_word_11 : decode cX6_word 11 = .ok (.lload 6, 2) := by decide +kernel
theorem dX6_word_13 : decode cX6_word 13 = .ok (.lmul, 1) := by decide +kernel
theorem dX6_word_14 : decode cX6_word 14 = .ok (.iload_n 1, 1) := by decide +kernel
theorem dX6_word_15 : decode cX6_word 15 = .ok (.i2l, 1) := by decide +kernel
theorem dX6_word_16 : decode cX6_word 16 = .ok (.ladd, 1) := by decide +kernel
theorem dX6_word_17 : decode cX6_word 17 = .ok (.ldc2_w 108, 3) := by decide +kernel
theorem dX6_word_20 : decode cX6_word 20 = .ok (.lsub, 1) := by decide +kernel
theorem dX6_word_21 : decode cX6_word 21 = .ok (.lstore 6, 2) := by decide +kernel
theorem dX6_word_23 : decode cX6_word 23 = .ok (.ldc2_w 106, 3) := by decide +kernel
theorem dX6_word_26 : decode cX6_word 26 = .ok (.lload 6, 2) := by decide +kernel
theorem dX6_word_28 : decode cX6_word 28 = .ok (.lmul, 1) := by decide +kernel
theorem dX6_word_29 : decode cX6_word 29 = .ok (.iload_n 2, 1) := by decide +kernel
theorem dX6_word_30 : decode cX6_word 30 = .ok (.i2l, 1) := by decide +kernel
theorem dX6_word_31 : decode cX6_word 31 = .ok (.ladd, 1) := by decide +kernel
theorem dX6_word_32 : decode cX6_word 32 = .ok (.ldc2_w 108, 3) := by decide +kernel
theorem dX6_word_35 : decode cX6_word 35 = .ok (.lsub, 1) := by decide +kernel
theorem dX6_word_36 : decode cX6_word 36 = .ok (.lstore 6, 2) := by decide +kernel
theorem dX6_word_38 : decode cX6_word 38 = .ok (.ldc2_w 106, 3) := by decide +kernel
theorem dX6_word_41 : decode cX6_word 41 = .ok (.lload 6, 2) := by decide +kernel
theorem dX6_word_43 : decode cX6_word 43 = .ok (.lmul, 1) := by decide +kernel
theorem dX6_word_44 : decode cX6_word 44 = .ok (.iload_n 3, 1) := by decide +kernel
theorem dX6_word_45 : decode cX6_word 45 = .ok (.i2l, 1) := by decide +kernel
theorem dX6_word_46 : decode cX6_word 46 = .ok (.ladd, 1) := by decide +kernel
theorem dX6_word_47 : decode cX6_word 47 = .ok (.ldc2_w 108, 3) := by decide +kernel
theorem dX6_word_50 : decode cX6_word 50 = .ok (.lsub, 1) := by decide +kernel
theorem dX6_word_51 : decode cX6_word 51 = .ok (.lstore 6, 2) := by decide +kernel
theorem dX6_word_53 : decode cX6_word 53 = .ok (.iload 4, 2) := by decide +kernel
theorem dX6_word_55 : decode cX6_word 55 = .ok (.ifCond .le 20, 3) := by decide +kernel
theorem dX6_word_58 : decode cX6_word 58 = .ok (.ldc2_w 106, 3) := by decide +kernel
theorem dX6_word_61 : decode cX6_word 61 = .ok (.lload 6, 2) := by decide +kernel
theorem dX6_word_63 : decode cX6_word 63 = .ok (.lmul, 1) := by decide +kernel
theorem dX6_word_64 : decode cX6_word 64 = .ok (.iload 4, 2) := by decide +kernel
theorem dX6_word_66 : decode cX6_word 66 = .ok (.i2l, 1) := by decide +kernel
theorem dX6_word_67 : decode cX6_word 67 = .ok (.ladd, 1) := by decide +kernel
theorem dX6_word_68 : decode cX6_word 68 = .ok (.ldc2_w 108, 3) := by decide +kernel
theorem dX6_word_71 : decode cX6_word 71 = .ok (.lsub, 1) := by decide +kernel
theorem dX6_word_72 : decode cX6_word 72 = .ok (.goto 5, 3) := by decide +kernel
theorem dX6_word_75 : decode cX6_word 75 = .ok (.lload 6, 2) := by decide +kernel
theorem dX6_word_77 : decode cX6_word 77 = .ok (.lstore 6, 2) := by decide +kernel
theorem dX6_word_79 : decode cX6_word 79 = .ok (.iload 5, 2) := by decide +kernel
theorem dX6_word_81 : decode cX6_word 81 = .ok (.ifCond .le 20, 3) := by decide +kernel
theorem dX6_word_84 : decode cX6_word 84 = .ok (.ldc2_w 106, 3) := by decide +kernel
theorem dX6_word_87 : decode cX6_word 87 = .ok (.lload 6, 2) := by decide +kernel
theorem dX6_word_89 : decode cX6_word 89 = .ok (.lmul, 1) := by decide +kernel
theorem dX6_word_90 : decode cX6_word 90 = .ok (.iload 5, 2) := by decide +kernel
theorem dX6_word_92 : decode cX6_word 92 = .ok (.i2l, 1) := by decide +kernel
theorem dX6_word_93 : decode cX6_word 93 = .ok (.ladd, 1) := by decide +kernel
theorem dX6_word_94 : decode cX6_word 94 = .ok (.ldc2_w 108, 3) := by decide +kernel
theorem dX6_word_97 : decode cX6_word 97 = .ok (.lsub, 1) := by decide +kernel
theorem dX6_word_98 : decode cX6_word 98 = .ok (.goto 5, 3) := by decide +kernel
theorem dX6_word_101 : decode cX6_word 101 = .ok (.lload 6, 2) := by decide +kernel
theorem dX6_word_103 : decode cX6_word 103 = .ok (.lreturn, 1) := by decide +kernel
theorem dX6_wordOf_0 : decode cX6_wordOf 0 = .ok (.iload_n 0, 1) := by decide +kernel
theorem dX6_wordOf_1 : decode cX6_wordOf 1 = .ok (.tableswitch 187 0 8 #[51, 66, 82, 98, 113, 128, 144, 158, 173], 51) := by decide +kernel
theorem dX6_wordOf_52 : decode cX6_wordOf 52 = .ok (.bipush 99, 2) := by decide +kernel
theorem dX6_wordOf_54 : decode cX6_wordOf 54 = .ok (.bipush 108, 2) := by decide +kernel
theorem dX6_wordOf_56 : decode cX6_wordOf 56 = .ok (.bipush 111, 2) := by decide +kernel
theorem dX6_wordOf_58 : decode cX6_wordOf 58 = .ok (.bipush 99, 2) := by decide +kernel
theorem dX6_wordOf_60 : decode cX6_wordOf 60 = .ok (.bipush 107, 2) := by decide +kernel
theorem dX6_wordOf_62 : decode cX6_wordOf 62 = .ok (.iconst 0, 1) := by decide +kernel
theorem dX6_wordOf_63 : decode cX6_wordOf 63 = .ok (.invokestatic 118, 3) := by decide +kernel
theorem dX6_wordOf_66 : decode cX6_wordOf 66 = .ok (.lreturn, 1) := by decide +kernel
theorem dX6_wordOf_67 : decode cX6_wordOf 67 = .ok (.bipush 100, 2) := by decide +kernel
theorem dX6_wordOf_69 : decode cX6_wordOf 69 = .ok (.bipush 101, 2) := by decide +kernel
theorem dX6_wordOf_71 : decode cX6_wordOf 71 = .ok (.bipush 114, 2) := by decide +kernel
theorem dX6_wordOf_73 : decode cX6_wordOf 73 = .ok (.bipush 105, 2) := by decide +kernel
theorem dX6_wordOf_75 : decode cX6_wordOf 75 = .ok (.bipush 118, 2) := by decide +kernel
theorem dX6_wordOf_77 : decode cX6_wordOf 77 = .ok (.bipush 101, 2) := by decide +kernel
theorem dX6_wordOf_79 : decode cX6_wordOf 79 = .ok (.invokestatic 118, 3) := by decide +kernel
theorem dX6_wordOf_82 : decode cX6_wordOf 82 = .ok (.lreturn, 1) := by decide +kernel
theorem dX6_wordOf_83 : decode cX6_wordOf 83 = .ok (.bipush 116, 2) := by decide +kernel
theorem dX6_wordOf_85 : decode cX6_wordOf 85 = .ok (.bipush 117, 2) := by decide +kernel
theorem dX6_wordOf_87 : decode cX6_wordOf 87 = .ok (.bipush 114, 2) := by decide +kernel
theorem dX6_wordOf_89 : decode cX6_wordOf 89 = .ok (.bipush 110, 2) := by decide +kernel
theorem dX6_wordOf_91 : decode cX6_wordOf 91 = .ok (.bipush 101, 2) := by decide +kernel
theorem dX6_wordOf_93 : decode cX6_wordOf 93 = .ok (.bipush 100, 2) := by decide +kernel
theorem dX6_wordOf_95 : decode cX6_wordOf 95 = .ok (.invokestatic 118, 3) := by decide +kernel
theorem dX6_wordOf_98 : decode cX6_wordOf 98 = .ok (.lreturn, 1) := by decide +kernel
theorem dX6_wordOf_99 : decode cX6_wordOf 99 = .ok (.bipush 97, 2) := by decide +kernel
theorem dX6_wordOf_101 : decode cX6_wordOf 101 = .ok (.bipush 112, 2) := by decide +kernel
theorem dX6_wordOf_103 : decode cX6_wordOf 103 = .ok (.bipush 97, 2) := by decide +kernel
theorem dX6_wordOf_105 : decode cX6_wordOf 105 = .ok (.bipush 114, 2) := by decide +kernel
theorem dX6_wordOf_107 : decode cX6_wordOf 107 = .ok (.bipush 116, 2) := by decide +kernel
theorem dX6_wordOf_109 : decode cX6_wordOf 109 = .ok (.iconst 0, 1) := by decide +kernel
theorem dX6_wordOf_110 : decode cX6_wordOf 110 = .ok (.invokestatic 118, 3) := by decide +kernel
theorem dX6_wordOf_113 : decode cX6_wordOf 113 = .ok (.lreturn, 1) := by decide +kernel
theorem dX6_wordOf_114 : decode cX6_wordOf 114 = .ok (.bipush 102, 2) := by decide +kernel
theorem dX6_wordOf_116 : decode cX6_wordOf 116 = .ok (.bipush 97, 2) := by decide +kernel
theorem dX6_wordOf_118 : decode cX6_wordOf 118 = .ok (.bipush 108, 2) := by decide +kernel
theorem dX6_wordOf_120 : decode cX6_wordOf 120 = .ok (.bipush 115, 2) := by decide +kernel
theorem dX6_wordOf_122 : decode cX6_wordOf 122 = .ok (.bipush 101, 2) := by decide +kernel
theorem dX6_wordOf_124 : decode cX6_wordOf 124 = .ok (.iconst 0, 1) := by decide +kernel
theorem dX6_wordOf_125 : decode cX6_wordOf 125 = .ok (.invokestatic 118, 3) := by decide +kernel
theorem dX6_wordOf_128 : decode cX6_wordOf 128 = .ok (.lreturn, 1) := by decide +kernel
theorem dX6_wordOf_129 : decode cX6_wordOf 129 = .ok (.bipush 99, 2) := by decide +kernel
theorem dX6_wordOf_131 : decode cX6_wordOf 131 = .ok (.bipush 121, 2) := by decide +kernel
theorem dX6_wordOf_133 : decode cX6_wordOf 133 = .ok (.bipush 99, 2) := by decide +kernel
theorem dX6_wordOf_135 : decode cX6_wordOf 135 = .ok (.bipush 108, 2) := by decide +kernel
theorem dX6_wordOf_137 : decode cX6_wordOf 137 = .ok (.bipush 101, 2) := by decide +kernel
theorem dX6_wordOf_139 : decode cX6_wordOf 139 = .ok (.bipush 115, 2) := by decide +kernel
theorem dX6_wordOf_141 : decode cX6_wordOf 141 = .ok (.invokestatic 118, 3) := by decide +kernel
theorem dX6_wordOf_144 : decode cX6_wordOf 144 = .ok (.lreturn, 1) := by decide +kernel
theorem dX6_wordOf_145 : decode cX6_wordOf 145 = .ok (.bipush 109, 2) := by decide +kernel
theorem dX6_wordOf_147 : decode cX6_wordOf 147 = .ok (.bipush 111, 2) := by decide +kernel
theorem dX6_wordOf_149 : decode cX6_wordOf 149 = .ok (.bipush 115, 2) := by decide +kernel
theorem dX6_wordOf_151 : decode cX6_wordOf 151 = .ok (.bipush 116, 2) := by decide +kernel
theorem dX6_wordOf_153 : decode cX6_wordOf 153 = .ok (.iconst 0, 1) := by decide +kernel
theorem dX6_wordOf_154 : decode cX6_wordOf 154 = .ok (.iconst 0, 1) := by decide +kernel
theorem dX6_wordOf_155 : decode cX6_wordOf 155 = .ok (.invokestatic 118, 3) := by decide +kernel
theorem dX6_wordOf_158 : decode cX6_wordOf 158 = .ok (.lreturn, 1) := by decide +kernel
theorem dX6_wordOf_159 : decode cX6_wordOf 159 = .ok (.bipush 108, 2) := by decide +kernel
theorem dX6_wordOf_161 : decode cX6_wordOf 161 = .ok (.bipush 101, 2) := by decide +kernel
theorem dX6_wordOf_163 : decode cX6_wordOf 163 = .ok (.bipush 97, 2) := by decide +kernel
theorem dX6_wordOf_165 : decode cX6_wordOf 165 = .ok (.bipush 115, 2) := by decide +kernel
theorem dX6_wordOf_167 : decode cX6_wordOf 167 = .ok (.bipush 116, 2) := by decide +kernel
theorem dX6_wordOf_169 : decode cX6_wordOf 169 = .ok (.iconst 0, 1) := by decide +kernel
theorem dX6_wordOf_170 : decode cX6_wordOf 170 = .ok (.invokestatic 118, 3) := by decide +kernel
theorem dX6_wordOf_173 : decode cX6_wordOf 173 = .ok (.lreturn, 1) := by decide +kernel
theorem dX6_wordOf_174 : decode cX6_wordOf 174 = .ok (.bipush 108, 2) := by decide +kernel
theorem dX6_wordOf_176 : decode cX6_wordOf 176 = .ok (.bipush 111, 2) := by decide +kernel
theorem dX6_wordOf_178 : decode cX6_wordOf 178 = .ok (.bipush 97, 2) := by decide +kernel
theorem dX6_wordOf_180 : decode cX6_wordOf 180 = .ok (.bipush 100, 2) := by decide +kernel
theorem dX6_wordOf_182 : decode cX6_wordOf 182 = .ok (.iconst 0, 1) := by decide +kernel
theorem dX6_wordOf_183 : decode cX6_wordOf 183 = .ok (.iconst 0, 1) := by decide +kernel
theorem dX6_wordOf_184 : decode cX6_wordOf 184 = .ok (.invokestatic 118, 3) := by decide +kernel
theorem dX6_wordOf_187 : decode cX6_wordOf 187 = .ok (.lreturn, 1) := by decide +kernel
theorem dX6_wordOf_188 : decode cX6_wordOf 188 = .ok (.bipush 115, 2) := by decide +kernel
theorem dX6_wordOf_190 : decode cX6_wordOf 190 = .ok (.bipush 108, 2) := by decide +kernel
theorem dX6_wordOf_192 : decode cX6_wordOf 192 = .ok (.bipush 111, 2) := by decide +kernel
theorem dX6_wordOf_194 : decode cX6_wordOf 194 = .ok (.bipush 112, 2) := by decide +kernel
theorem dX6_wordOf_196 : decode cX6_wordOf 196 = .ok (.bipush 101, 2) := by decide +kernel
theorem dX6_wordOf_198 : decode cX6_wordOf 198 = .ok (.iconst 0, 1) := by decide +kernel
theorem dX6_wordOf_199 : decode cX6_wordOf 199 = .ok (.invokestatic 118, 3) := by decide +kernel
theorem dX6_wordOf_202 : decode cX6_wordOf 202 = .ok (.lreturn, 1) := by decide +kernel
theorem dX6_sortOf_0 : decode cX6_sortOf 0 = .ok (.iconst (-1), 1) := by decide +kernel
theorem dX6_sortOf_1 : decode cX6_sortOf 1 = .ok (.istore_n 3, 1) := by decide +kernel
theorem dX6_sortOf_2 : decode cX6_sortOf 2 = .ok (.iconst 0, 1) := by decide +kernel
theorem dX6_sortOf_3 : decode cX6_sortOf 3 = .ok (.istore 4, 2) := by decide +kernel
theorem dX6_sortOf_5 : decode cX6_sortOf 5 = .ok (.iload 4, 2) := by decide +kernel
theorem dX6_sortOf_7 : decode cX6_sortOf 7 = .ok (.bipush 9, 2) := by decide +kernel
theorem dX6_sortOf_9 : decode cX6_sortOf 9 = .ok (.if_icmp .gt 32, 3) := by decide +kernel
theorem dX6_sortOf_12 : decode cX6_sortOf 12 = .ok (.lload_n 1, 1) := by decide +kernel
theorem dX6_sortOf_13 : decode cX6_sortOf 13 = .ok (.lconst 0, 1) := by decide +kernel
theorem dX6_sortOf_14 : decode cX6_sortOf 14 = .ok (.lcmp, 1) := by decide +kernel
theorem dX6_sortOf_15 : decode cX6_sortOf 15 = .ok (.ifCond .le 18, 3) := by decide +kernel
theorem dX6_sortOf_18 : decode cX6_sortOf 18 = .ok (.iload 4, 2) := by decide +kernel
theorem dX6_sortOf_20 : decode cX6_sortOf 20 = .ok (.invokestatic 122, 3) := by decide +kernel
theorem dX6_sortOf_23 : decode cX6_sortOf 23 = .ok (.lload_n 1, 1) := by decide +kernel
theorem dX6_sortOf_24 : decode cX6_sortOf 24 = .ok (.lcmp, 1) := by decide +kernel
theorem dX6_sortOf_25 : decode cX6_sortOf 25 = .ok (.ifCond .ne 8, 3) := by decide +kernel
theorem dX6_sortOf_28 : decode cX6_sortOf 28 = .ok (.iload 4, 2) := by decide +kernel
theorem dX6_sortOf_30 : decode cX6_sortOf 30 = .ok (.goto 4, 3) := by decide +kernel
theorem dX6_sortOf_33 : decode cX6_sortOf 33 = .ok (.iload_n 3, 1) := by decide +kernel
theorem dX6_sortOf_34 : decode cX6_sortOf 34 = .ok (.istore_n 3, 1) := by decide +kernel
theorem dX6_sortOf_35 : decode cX6_sortOf 35 = .ok (.iinc 4 1, 3) := by decide +kernel
theorem dX6_sortOf_38 : decode cX6_sortOf 38 = .ok (.goto (-33), 3) := by decide +kernel
theorem dX6_sortOf_41 : decode cX6_sortOf 41 = .ok (.iload_n 3, 1) := by decide +kernel
theorem dX6_sortOf_42 : decode cX6_sortOf 42 = .ok (.ireturn, 1) := by decide +kernel
theorem dX6_clockOf_0 : decode cX6_clockOf 0 = .ok (.iconst (-1), 1) := by decide +kernel
theorem dX6_clockOf_1 : decode cX6_clockOf 1 = .ok (.istore_n 3, 1) := by decide +kernel
theorem dX6_clockOf_2 : decode cX6_clockOf 2 = .ok (.iconst 0, 1) := by decide +kernel
theorem dX6_clockOf_3 : decode cX6_clockOf 3 = .ok (.istore 4, 2) := by decide +kernel
theorem dX6_clockOf_5 : decode cX6_clockOf 5 = .ok (.iload 4, 2) := by decide +kernel
theorem dX6_clockOf_7 : decode cX6_clockOf 7 = .ok (.aload_n 0, 1) := by decide +kernel
theorem dX6_clockOf_8 : decode cX6_clockOf 8 = .ok (.getfield 126, 3) := by decide +kernel
theorem dX6_clockOf_11 : decode cX6_clockOf 11 = .ok (.if_icmp .ge 39, 3) := by decide +kernel
theorem dX6_clockOf_14 : decode cX6_clockOf 14 = .ok (.aload_n 0, 1) := by decide +kernel
theorem dX6_clockOf_15 : decode cX6_clockOf 15 = .ok (.getfield 22, 3) := by decide +kernel
theorem dX6_clockOf_18 : decode cX6_clockOf 18 = .ok (.bipush 40, 2) := by decide +kernel
theorem dX6_clockOf_20 : decode cX6_clockOf 20 = .ok (.aload_n 0, 1) := by decide +kernel
theorem dX6_clockOf_21 : decode cX6_clockOf 21 = .ok (.getfield 44, 3) := by decide +kernel
theorem dX6_clockOf_24 : decode cX6_clockOf 24 = .ok (.bipush 12, 2) := by decide +kernel
theorem dX6_clockOf_26 : decode cX6_clockOf 26 = .ok (.iload 4, 2) := by decide +kernel
theorem dX6_clockOf_28 : decode cX6_clockOf 28 = .ok (.iadd, 1) := by decide +kernel
theorem dX6_clockOf_29 : decode cX6_clockOf 29 = .ok (.iaload, 1) := by decide +kernel
theorem dX6_clockOf_30 : decode cX6_clockOf 30 = .ok (.iadd, 1) := by decide +kernel
theorem dX6_clockOf_31 : decode cX6_clockOf 31 = .ok (.laload, 1) := by decide +kernel
theorem dX6_clockOf_32 : decode cX6_clockOf 32 = .ok (.lload_n 1, 1) := by decide +kernel
theorem dX6_clockOf_33 : decode cX6_clockOf 33 = .ok (.lcmp, 1) := by decide +kernel
theorem dX6_clockOf_34 : decode cX6_clockOf 34 = .ok (.ifCond .ne 8, 3) := by decide +kernel
theorem dX6_clockOf_37 : decode cX6_clockOf 37 = .ok (.iload 4, 2) := by decide +kernel
theorem dX6_clockOf_39 : decode cX6_clockOf 39 = .ok (.goto 4, 3) := by decide +kernel
theorem dX6_clockOf_42 : decode cX6_clockOf 42 = .ok (.iload_n 3, 1) := by decide +kernel
theorem dX6_clockOf_43 : decode cX6_clockOf 43 = .ok (.istore_n 3, 1) := by decide +kernel
theorem dX6_clockOf_44 : decode cX6_clockOf 44 = .ok (.iinc 4 1, 3) := by decide +kernel
theorem dX6_clockOf_47 : decode cX6_clockOf 47 = .ok (.goto (-42), 3) := by decide +kernel
theorem dX6_clockOf_50 : decode cX6_clockOf 50 = .ok (.iload_n 3, 1) := by decide +kernel
theorem dX6_clockOf_51 : decode cX6_clockOf 51 = .ok (.ireturn, 1) := by decide +kernel
theorem dX6_takeNew_0 : decode cX6_takeNew 0 = .ok (.aload_n 0, 1) := by decide +kernel
theorem dX6_takeNew_1 : decode cX6_takeNew 1 = .ok (.invokevirtual 129, 3) := by decide +kernel
theorem dX6_takeNew_4 : decode cX6_takeNew 4 = .ok (.lstore_n 2, 1) := by decide +kernel
theorem dX6_takeNew_5 : decode cX6_takeNew 5 = .ok (.aload_n 0, 1) := by decide +kernel
theorem dX6_takeNew_6 : decode cX6_takeNew 6 = .ok (.getfield 66, 3) := by decide +kernel
theorem dX6_takeNew_9 : decode cX6_takeNew 9 = .ok (.aload_n 0, 1) := by decide +kernel
theorem dX6_takeNew_10 : decode cX6_takeNew 10 = .ok (.getfield 133, 3) := by decide +kernel
theorem dX6_takeNew_13 : decode cX6_takeNew 13 = .ok (.aload_n 0, 1) := by decide +kernel
theorem dX6_takeNew_14 : decode cX6_takeNew 14 = .ok (.getfield 92, 3) := by decide +kernel
theorem dX6_takeNew_17 : decode cX6_takeNew 17 = .ok (.iastore, 1) := by decide +kernel
theorem dX6_takeNew_18 : decode cX6_takeNew 18 = .ok (.aload_n 0, 1) := by decide +kernel
theorem dX6_takeNew_19 : decode cX6_takeNew 19 = .ok (.lload_n 2, 1) := by decide +kernel
theorem dX6_takeNew_20 : decode cX6_takeNew 20 = .ok (.lconst 0, 1) := by decide +kernel
theorem dX6_takeNew_21 : decode cX6_takeNew 21 = .ok (.lcmp, 1) := by decide +kernel
theorem dX6_takeNew_22 : decode cX6_takeNew 22 = .ok (.ifCond .le 25, 3) := by decide +kernel
theorem dX6_takeNew_25 : decode cX6_takeNew 25 = .ok (.aload_n 0, 1) := by decide +kernel
theorem dX6_takeNew_26 : decode cX6_takeNew 26 = .ok (.getfield 126, 3) := by decide +kernel
theorem dX6_takeNew_29 : decode cX6_takeNew 29 = .ok (.bipush 12, 2) := by decide +kernel
theorem dX6_takeNew_31 : decode cX6_takeNew 31 = .ok (.if_icmp .ge 16, 3) := by decide +kernel
theorem dX6_takeNew_34 : decode cX6_takeNew 34 = .ok (.aload_n 0, 1) := by decide +kernel
theorem dX6_takeNew_35 : decode cX6_takeNew 35 = .ok (.lload_n 2, 1) := by decide +kernel
theorem dX6_takeNew_36 : decode cX6_takeNew 36 = .ok (.invokevirtual 136, 3) := by decide +kernel
theorem dX6_takeNew_39 : decode cX6_takeNew 39 = .ok (.iconst (-1), 1) := by decide +kernel
theorem dX6_takeNew_40 : decode cX6_takeNew 40 = .ok (.if_icmp .ne 7, 3) := by decide +kernel
theorem dX6_takeNew_43 : decode cX6_takeNew 43 = .ok (.iconst 1, 1) := by decide +kernel
theorem dX6_takeNew_44 : decode cX6_takeNew 44 = .ok (.goto 4, 3) := by decide +kernel
theorem dX6_takeNew_47 : decode cX6_takeNew 47 = .ok (.iconst 0, 1) := by decide +kernel
theorem dX6_takeNew_48 : decode cX6_takeNew 48 = .ok (.invokevirtual 102, 3) := by decide +kernel
theorem dX6_takeNew_51 : decode cX6_takeNew 51 = .ok (.aload_n 0, 1) := by decide +kernel
theorem dX6_takeNew_52 : decode cX6_takeNew 52 = .ok (.getfield 22, 3) := by decide +kernel
theorem dX6_takeNew_55 : decode cX6_takeNew 55 = .ok (.iload_n 1, 1) := by decide +kernel
theorem dX6_takeNew_56 : decode cX6_takeNew 56 = .ok (.lload_n 2, 1) := by decide +kernel
theorem dX6_takeNew_57 : decode cX6_takeNew 57 = .ok (.lastore, 1) := by decide +kernel
theorem dX6_takeNew_58 : decode cX6_takeNew 58 = .ok (.return_, 1) := by decide +kernel
theorem dX6_takeOld_0 : decode cX6_takeOld 0 = .ok (.aload_n 0, 1) := by decide +kernel
theorem dX6_takeOld_1 : decode cX6_takeOld 1 = .ok (.invokevirtual 129, 3) := by decide +kernel
theorem dX6_takeOld_4 : decode cX6_takeOld 4 = .ok (.lstore_n 3, 1) := by decide +kernel
theorem dX6_takeOld_5 : decode cX6_takeOld 5 = .ok (.iload_n 2, 1) := by decide +kernel
theorem dX6_takeOld_6 : decode cX6_takeOld 6 = .ok (.ifCond .eq 26, 3) := by decide +kernel
theorem dX6_takeOld_9 : decode cX6_takeOld 9 = .ok (.aload_n 0, 1) := by decide +kernel
theorem dX6_takeOld_10 : decode cX6_takeOld 10 = .ok (.getfield 66, 3) := by decide +kernel
theorem dX6_takeOld_13 : decode cX6_takeOld 13 = .ok (.aload_n 0, 1) := by decide +kernel
theorem dX6_takeOld_14 : decode cX6_takeOld 14 = .ok (.getfield 133, 3) := by decide +kernel
theorem dX6_takeOld_17 : decode cX6_takeOld 17 = .ok (.aload_n 0, 1) := by decide +kernel
theorem dX6_takeOld_18 : decode cX6_takeOld 18 = .ok (.getfield 92, 3) := by decide +kernel
theorem dX6_takeOld_21 : decode cX6_takeOld 21 = .ok (.iastore, 1) := by decide +kernel
theorem dX6_takeOld_22 : decode cX6_takeOld 22 = .ok (.aload_n 0, 1) := by decide +kernel
theorem dX6_takeOld_23 : decode cX6_takeOld 23 = .ok (.getfield 22, 3) := by decide +kernel
theorem dX6_takeOld_26 : decode cX6_takeOld 26 = .ok (.iload_n 1, 1) := by decide +kernel
theorem dX6_takeOld_27 : decode cX6_takeOld 27 = .ok (.lload_n 3, 1) := by decide +kernel
theorem dX6_takeOld_28 : decode cX6_takeOld 28 = .ok (.lastore, 1) := by decide +kernel
theorem dX6_takeOld_29 : decode cX6_takeOld 29 = .ok (.goto 23, 3) := by decide +kernel
theorem dX6_takeOld_32 : decode cX6_takeOld 32 = .ok (.aload_n 0, 1) := by decide +kernel
theorem dX6_takeOld_33 : decode cX6_takeOld 33 = .ok (.getfield 69, 3) := by decide +kernel
theorem dX6_takeOld_36 : decode cX6_takeOld 36 = .ok (.aload_n 0, 1) := by decide +kernel
theorem dX6_takeOld_37 : decode cX6_takeOld 37 = .ok (.getfield 133, 3) := by decide +kernel
theorem dX6_takeOld_40 : decode cX6_takeOld 40 = .ok (.aload_n 0, 1) := by decide +kernel
theorem dX6_takeOld_41 : decode cX6_takeOld 41 = .ok (.getfield 92, 3) := by decide +kernel
theorem dX6_takeOld_44 : decode cX6_takeOld 44 = .ok (.iastore, 1) := by decide +kernel
theorem dX6_takeOld_45 : decode cX6_takeOld 45 = .ok (.aload_n 0, 1) := by decide +kernel
theorem dX6_takeOld_46 : decode cX6_takeOld 46 = .ok (.getfield 26, 3) := by decide +kernel
theorem dX6_takeOld_49 : decode cX6_takeOld 49 = .ok (.iload_n 1, 1) := by decide +kernel
theorem dX6_takeOld_50 : decode cX6_takeOld 50 = .ok (.lload_n 3, 1) := by decide +kernel
theorem dX6_takeOld_51 : decode cX6_takeOld 51 = .ok (.lastore, 1) := by decide +kernel
theorem dX6_takeOld_52 : decode cX6_takeOld 52 = .ok (.aload_n 0, 1) := by decide +kernel
theorem dX6_takeOld_53 : decode cX6_takeOld 53 = .ok (.lload_n 3, 1) := by decide +kernel
theorem dX6_takeOld_54 : decode cX6_takeOld 54 = .ok (.lconst 0, 1) := by decide +kernel
theorem dX6_takeOld_55 : decode cX6_takeOld 55 = .ok (.lcmp, 1) := by decide +kernel
theorem dX6_takeOld_56 : decode cX6_takeOld 56 = .ok (.ifCond .le 7, 3) := by decide +kernel
theorem dX6_takeOld_59 : decode cX6_takeOld 59 = .ok (.iconst 1, 1) := by decide +kernel
theorem dX6_takeOld_60 : decode cX6_takeOld 60 = .ok (.goto 4, 3) := by decide +kernel
theorem dX6_takeOld_63 : decode cX6_takeOld 63 = .ok (.iconst 0, 1) := by decide +kernel
theorem dX6_takeOld_64 : decode cX6_takeOld 64 = .ok (.invokevirtual 102, 3) := by decide +kernel
theorem dX6_takeOld_67 : decode cX6_takeOld 67 = .ok (.return_, 1) := by decide +kernel
theorem dX6_readClock_0 : decode cX6_readClock 0 = .ok (.aload_n 0, 1) := by decide +kernel
theorem dX6_readClock_1 : decode cX6_readClock 1 = .ok (.iload_n 1, 1) := by decide +kernel
theorem dX6_readClock_2 : decode cX6_readClock 2 = .ok (.invokevirtual 140, 3) := by decide +kernel
theorem dX6_readClock_5 : decode cX6_readClock 5 = .ok (.aload_n 0, 1) := by decide +kernel
theorem dX6_readClock_6 : decode cX6_readClock 6 = .ok (.getfield 29, 3) := by decide +kernel
theorem dX6_readClock_9 : decode cX6_readClock 9 = .ok (.iload_n 1, 1) := by decide +kernel
theorem dX6_readClock_10 : decode cX6_readClock 10 = .ok (.aload_n 0, 1) := by decide +kernel
theorem dX6_readClock_11 : decode cX6_readClock 11 = .ok (.getfield 95, 3) := by decide +kernel
theorem dX6_readClock_14 : decode cX6_readClock 14 = .ok (.ifCond .eq 13, 3) := by decide +kernel
theorem dX6_readClock_17 : decode cX6_readClock 17 = .ok (.aload_n 0, 1) := by decide +kernel
theorem dX6_readClock_18 : decode cX6_readClock 18 = .ok (.iconst 1, 1) := by decide +kernel
theorem dX6_readClock_19 : decode cX6_readClock 19 = .ok (.ldc 144, 2) := by decide +kernel
theorem dX6_readClock_21 : decode cX6_readClock 21 = .ok (.invokevirtual 145, 3) := by decide +kernel
theorem dX6_readClock_24 : decode cX6_readClock 24 = .ok (.goto 4, 3) := by decide +kernel
theorem dX6_readClock_27 : decode cX6_readClock 27 = .ok (.iconst 0, 1) := by decide +kernel
theorem dX6_readClock_28 : decode cX6_readClock 28 = .ok (.iastore, 1) := by decide +kernel
theorem dX6_readClock_29 : decode cX6_readClock 29 = .ok (.aload_n 0, 1) := by decide +kernel
theorem dX6_readClock_30 : decode cX6_readClock 30 = .ok (.getfield 32, 3) := by decide +kernel
theorem dX6_readClock_33 : decode cX6_readClock 33 = .ok (.iload_n 1, 1) := by decide +kernel
theorem dX6_readClock_34 : decode cX6_readClock 34 = .ok (.aload_n 0, 1) := by decide +kernel
theorem dX6_readClock_35 : decode cX6_readClock 35 = .ok (.getfield 95, 3) := by decide +kernel
theorem dX6_readClock_38 : decode cX6_readClock 38 = .ok (.ifCond .eq 19, 3) := by decide +kernel
theorem dX6_readClock_41 : decode cX6_readClock 41 = .ok (.aload_n 0, 1) := by decide +kernel
theorem dX6_readClock_42 : decode cX6_readClock 42 = .ok (.iconst 0, 1) := by decide +kernel
theorem dX6_readClock_43 : decode cX6_readClock 43 = .ok (.aload_n 0, 1) := by decide +kernel
theorem dX6_readClock_44 : decode cX6_readClock 44 = .ok (.getfield 29, 3) := by decide +kernel
theorem dX6_readClock_47 : decode cX6_readClock 47 = .ok (.iload_n 1, 1) := by decide +kernel
theorem dX6_readClock_48 : decode cX6_readClock 48 = .ok (.iaload, 1) := by decide +kernel
theorem dX6_readClock_49 : decode cX6_readClock 49 = .ok (.iconst 1, 1) := by decide +kernel
theorem dX6_readClock_50 : decode cX6_readClock 50 = .ok (.isub, 1) := by decide +kernel
theorem dX6_readClock_51 : decode cX6_readClock 51 = .ok (.invokevirtual 145, 3) := by decide +kernel
theorem dX6_readClock_54 : decode cX6_readClock 54 = .ok (.goto 4, 3) := by decide +kernel
theorem dX6_readClock_57 : decode cX6_readClock 57 = .ok (.iconst 0, 1) := by decide +kernel
theorem dX6_readClock_58 : decode cX6_readClock 58 = .ok (.iastore, 1) := by decide +kernel
theorem dX6_readClock_59 : decode cX6_readClock 59 = .ok (.aload_n 0, 1) := by decide +kernel
theorem dX6_readClock_60 : decode cX6_readClock 60 = .ok (.getfield 95, 3) := by decide +kernel
theorem dX6_readClock_63 : decode cX6_readClock 63 = .ok (.ifCond .eq 10, 3) := by decide +kernel
theorem dX6_readClock_66 : decode cX6_readClock 66 = .ok (.aload_n 0, 1) := by decide +kernel
theorem dX6_readClock_67 : decode cX6_readClock 67 = .ok (.invokevirtual 110, 3) := by decide +kernel
theorem dX6_readClock_70 : decode cX6_readClock 70 = .ok (.goto 4, 3) := by decide +kernel
theorem dX6_readClock_73 : decode cX6_readClock 73 = .ok (.iconst (-1), 1) := by decide +kernel
theorem dX6_readClock_74 : decode cX6_readClock 74 = .ok (.istore_n 2, 1) := by decide +kernel
theorem dX6_readClock_75 : decode cX6_readClock 75 = .ok (.aload_n 0, 1) := by decide +kernel
theorem dX6_readClock_76 : decode cX6_readClock 76 = .ok (.iload_n 2, 1) := by decide +kernel
theorem dX6_readClock_77 : decode cX6_readClock 77 = .ok (.ifCond .lt 27, 3) := by decide +kernel
theorem dX6_readClock_80 : decode cX6_readClock 80 = .ok (.iload_n 2, 1) := by decide +kernel
theorem dX6_readClock_81 : decode cX6_readClock 81 = .ok (.aload_n 0, 1) := by decide +kernel
theorem dX6_readClock_82 : decode cX6_readClock 82 = .ok (.getfield 29, 3) := by decide +kernel
theorem dX6_readClock_85 : decode cX6_readClock 85 = .ok (.iload_n 1, 1) := by decide +kernel
theorem dX6_readClock_86 : decode cX6_readClock 86 = .ok (.iaload, 1) := by decide +kernel
theorem dX6_readClock_87 : decode cX6_readClock 87 = .ok (.if_icmp .ge 17, 3) := by decide +kernel
theorem dX6_readClock_90 : decode cX6_readClock 90 = .ok (.iload_n 2, 1) := by decide +kernel
theorem dX6_readClock_91 : decode cX6_readClock 91 = .ok (.aload_n 0, 1) := by decide +kernel
theorem dX6_readClock_92 : decode cX6_readClock 92 = .ok (.getfield 32, 3) := by decide +kernel
theorem dX6_readClock_95 : decode cX6_readClock 95 = .ok (.iload_n 1, 1) := by decide +kernel
theorem dX6_readClock_96 : decode cX6_readClock 96 = .ok (.iaload, 1) := by decide +kernel
theorem dX6_readClock_97 : decode cX6_readClock 97 = .ok (.if_icmp .eq 7, 3) := by decide +kernel
theorem dX6_readClock_100 : decode cX6_readClock 100 = .ok (.iconst 1, 1) := by decide +kernel
theorem dX6_readClock_101 : decode cX6_readClock 101 = .ok (.goto 4, 3) := by decide +kernel
theorem dX6_readClock_104 : decode cX6_readClock 104 = .ok (.iconst 0, 1) := by decide +kernel
theorem dX6_readClock_105 : decode cX6_readClock 105 = .ok (.invokevirtual 102, 3) := by decide +kernel
theorem dX6_readClock_108 : decode cX6_readClock 108 = .ok (.aload_n 0, 1) := by decide +kernel
theorem dX6_readClock_109 : decode cX6_readClock 109 = .ok (.getfield 35, 3) := by decide +kernel
theorem dX6_readClock_112 : decode cX6_readClock 112 = .ok (.iload_n 1, 1) := by decide +kernel
theorem dX6_readClock_113 : decode cX6_readClock 113 = .ok (.iload_n 2, 1) := by decide +kernel
theorem dX6_readClock_114 : decode cX6_readClock 114 = .ok (.iastore, 1) := by decide +kernel
theorem dX6_readClock_115 : decode cX6_readClock 115 = .ok (.aload_n 0, 1) := by decide +kernel
theorem dX6_readClock_116 : decode cX6_readClock 116 = .ok (.getfield 95, 3) := by decide +kernel
theorem dX6_readClock_119 : decode cX6_readClock 119 = .ok (.ifCond .eq 10, 3) := by decide +kernel
theorem dX6_readClock_122 : decode cX6_readClock 122 = .ok (.aload_n 0, 1) := by decide +kernel
theorem dX6_readClock_123 : decode cX6_readClock 123 = .ok (.iload_n 1, 1) := by decide +kernel
theorem dX6_readClock_124 : decode cX6_readClock 124 = .ok (.iconst 0, 1) := by decide +kernel
theorem dX6_readClock_125 : decode cX6_readClock 125 = .ok (.iconst 0, 1) := by decide +kernel
theorem dX6_readClock_126 : decode cX6_readClock 126 = .ok (.invokevirtual 149, 3) := by decide +kernel
theorem dX6_readClock_129 : decode cX6_readClock 129 = .ok (.return_, 1) := by decide +kernel
theorem dX6_readDerived_0 : decode cX6_readDerived 0 = .ok (.aload_n 0, 1) := by decide +kernel
theorem dX6_readDerived_1 : decode cX6_readDerived 1 = .ok (.iload_n 1, 1) := by decide +kernel
theorem dX6_readDerived_2 : decode cX6_readDerived 2 = .ok (.invokevirtual 140, 3) := by decide +kernel
theorem dX6_readDerived_5 : decode cX6_readDerived 5 = .ok (.aload_n 0, 1) := by decide +kernel
theorem dX6_readDerived_6 : decode cX6_readDerived 6 = .ok (.getfield 95, 3) := by decide +kernel
theorem dX6_readDerived_9 : decode cX6_readDerived 9 = .ok (.ifCond .eq 9, 3) := by decide +kernel
theorem dX6_readDerived_12 : decode cX6_readDerived 12 = .ok (.aload_n 0, 1) := by decide +kernel
theorem dX6_readDerived_13 : decode cX6_readDerived 13 = .ok (.iload_n 1, 1) := by decide +kernel
theorem dX6_readDerived_14 : decode cX6_readDerived 14 = .ok (.iconst 0, 1) := by decide +kernel
theorem dX6_readDerived_15 : decode cX6_readDerived 15 = .ok (.invokevirtual 153, 3) := by decide +kernel
theorem dX6_readDerived_18 : decode cX6_readDerived 18 = .ok (.aload_n 0, 1) := by decide +kernel
theorem dX6_readDerived_19 : decode cX6_readDerived 19 = .ok (.getfield 29, 3) := by decide +kernel
theorem dX6_readDerived_22 : decode cX6_readDerived 22 = .ok (.iload_n 1, 1) := by decide +kernel
theorem dX6_readDerived_23 : decode cX6_readDerived 23 = .ok (.aload_n 0, 1) := by decide +kernel
theorem dX6_readDerived_24 : decode cX6_readDerived 24 = .ok (.getfield 95, 3) := by decide +kernel
theorem dX6_readDerived_27 : decode cX6_readDerived 27 = .ok (.ifCond .eq 14, 3) := by decide +kernel
theorem dX6_readDerived_30 : decode cX6_readDerived 30 = .ok (.aload_n 0, 1) := by decide +kernel
theorem dX6_readDerived_31 : decode cX6_readDerived 31 = .ok (.iconst 1, 1) := by decide +kernel
theorem dX6_readDerived_32 : decode cX6_readDerived 32 = .ok (.sipush 1000, 3) := by decide +kernel
theorem dX6_readDerived_35 : decode cX6_readDerived 35 = .ok (.invokevirtual 145, 3) := by decide +kernel
theorem dX6_readDerived_38 : decode cX6_readDerived 38 = .ok (.goto 4, 3) := by decide +kernel
theorem dX6_readDerived_41 : decode cX6_readDerived 41 = .ok (.iconst 0, 1) := by decide +kernel
theorem dX6_readDerived_42 : decode cX6_readDerived 42 = .ok (.iastore, 1) := by decide +kernel
theorem dX6_readDerived_43 : decode cX6_readDerived 43 = .ok (.aload_n 0, 1) := by decide +kernel
theorem dX6_readDerived_44 : decode cX6_readDerived 44 = .ok (.getfield 32, 3) := by decide +kernel
theorem dX6_readDerived_47 : decode cX6_readDerived 47 = .ok (.iload_n 1, 1) := by decide +kernel
theorem dX6_readDerived_48 : decode cX6_readDerived 48 = .ok (.aload_n 0, 1) := by decide +kernel
theorem dX6_readDerived_49 : decode cX6_readDerived 49 = .ok (.getfield 95, 3) := by decide +kernel
theorem dX6_readDerived_52 : decode cX6_readDerived 52 = .ok (.ifCond .eq 14, 3) := by decide +kernel
theorem dX6_readDerived_55 : decode cX6_readDerived 55 = .ok (.aload_n 0, 1) := by decide +kernel
theorem dX6_readDerived_56 : decode cX6_readDerived 56 = .ok (.iconst 1, 1) := by decide +kernel
theorem dX6_readDerived_57 : decode cX6_readDerived 57 = .ok (.sipush 1000, 3) := by decide +kernel
theorem dX6_readDerived_60 : decode cX6_readDerived 60 = .ok (.invokevirtual 145, 3) := by decide +kernel
theorem dX6_readDerived_63 : decode cX6_readDerived 63 = .ok (.goto 4, 3) := by decide +kernel
theorem dX6_readDerived_66 : decode cX6_readDerived 66 = .ok (.iconst 0, 1) := by decide +kernel
theorem dX6_readDerived_67 : decode cX6_readDerived 67 = .ok (.iastore, 1) := by decide +kernel
theorem dX6_readDerived_68 : decode cX6_readDerived 68 = .ok (.aload_n 0, 1) := by decide +kernel
theorem dX6_readDerived_69 : decode cX6_readDerived 69 = .ok (.getfield 95, 3) := by decide +kernel
theorem dX6_readDerived_72 : decode cX6_readDerived 72 = .ok (.ifCond .eq 10, 3) := by decide +kernel
theorem dX6_readDerived_75 : decode cX6_readDerived 75 = .ok (.aload_n 0, 1) := by decide +kernel
theorem dX6_readDerived_76 : decode cX6_readDerived 76 = .ok (.iload_n 1, 1) := by decide +kernel
theorem dX6_readDerived_77 : decode cX6_readDerived 77 = .ok (.iconst 0, 1) := by decide +kernel
theorem dX6_readDerived_78 : decode cX6_readDerived 78 = .ok (.iconst 0, 1) := by decide +kernel
theorem dX6_readDerived_79 : decode cX6_readDerived 79 = .ok (.invokevirtual 149, 3) := by decide +kernel
theorem dX6_readDerived_82 : decode cX6_readDerived 82 = .ok (.return_, 1) := by decide +kernel
theorem dX6_readException_0 : decode cX6_readException 0 = .ok (.iconst 0, 1) := by decide +kernel
theorem dX6_readException_1 : decode cX6_readException 1 = .ok (.istore_n 2, 1) := by decide +kernel
theorem dX6_readException_2 : decode cX6_readException 2 = .ok (.iload_n 2, 1) := by decide +kernel
theorem dX6_readException_3 : decode cX6_readException 3 = .ok (.iconst 3, 1) := by decide +kernel
theorem dX6_readException_4 : decode cX6_readException 4 = .ok (.if_icmp .ge 56, 3) := by decide +kernel
theorem dX6_readException_7 : decode cX6_readException 7 = .ok (.aload_n 0, 1) := by decide +kernel
theorem dX6_readException_8 : decode cX6_readException 8 = .ok (.getfield 95, 3) := by decide +kernel
theorem dX6_readException_11 : decode cX6_readException 11 = .ok (.ifCond .eq 49, 3) := by decide +kernel
theorem dX6_readException_14 : decode cX6_readException 14 = .ok (.iload_n 2, 1) := by decide +kernel
theorem dX6_readException_15 : decode cX6_readException 15 = .ok (.iconst 2, 1) := by decide +kernel
theorem dX6_readException_16 : decode cX6_readException 16 = .ok (.if_icmp .lt 25, 3) := by decide +kernel
theorem dX6_readException_19 : decode cX6_readException 19 = .ok (.aload_n 0, 1) := by decide +kernel
theorem dX6_readException_20 : decode cX6_readException 20 = .ok (.getfield 41, 3) := by decide +kernel
theorem dX6_readException_23 : decode cX6_readException 23 = .ok (.iconst 3, 1) := by decide +kernel
theorem dX6_readException_24 : decode cX6_readException 24 = .ok (.iload_n 1, 1) := by decide +kernel
theorem dX6_readException_25 : decode cX6_readException 25 = .ok (.imul, 1) := by decide +kernel
theorem dX6_readException_26 : decode cX6_readException 26 = .ok (.iaload, 1) := by decide +kernel
theorem dX6_readException_27 : decode cX6_readException 27 = .ok (.aload_n 0, 1) := by decide +kernel
theorem dX6_readException_28 : decode cX6_readException 28 = .ok (.getfield 41, 3) := by decide +kernel
theorem dX6_readException_31 : decode cX6_readException 31 = .ok (.iconst 3, 1) := by decide +kernel
theorem dX6_readException_32 : decode cX6_readException 32 = .ok (.iload_n 1, 1) := by decide +kernel
theorem dX6_readException_33 : decode cX6_readException 33 = .ok (.imul, 1) := by decide +kernel
theorem dX6_readException_34 : decode cX6_readException 34 = .ok (.iconst 1, 1) := by decide +kernel
theorem dX6_readException_35 : decode cX6_readException 35 = .ok (.iadd, 1) := by decide +kernel
theorem dX6_readException_36 : decode cX6_readException 36 = .ok (.iaload, 1) := by decide +kernel
theorem dX6_readException_37 : decode cX6_readException 37 = .ok (.iadd, 1) := by decide +kernel
theorem dX6_readException_38 : decode cX6_readException 38 = .ok (.ifCond .le 7, 3) := by decide +kernel
theorem dX6_readException_41 : decode cX6_readException 41 = .ok (.iconst 1, 1) := by decide +kernel
theorem dX6_readException_42 : decode cX6_readException 42 = .ok (.goto 4, 3) := by decide +kernel
theorem dX6_readException_45 : decode cX6_readException 45 = .ok (.iconst 0, 1) := by decide +kernel
theorem dX6_readException_46 : decode cX6_readException 46 = .ok (.istore_n 3, 1) := by decide +kernel
theorem dX6_readException_47 : decode cX6_readException 47 = .ok (.aload_n 0, 1) := by decide +kernel
theorem dX6_readException_48 : decode cX6_readException 48 = .ok (.iload_n 1, 1) := by decide +kernel
theorem dX6_readException_49 : decode cX6_readException 49 = .ok (.iload_n 2, 1) := by decide +kernel
theorem dX6_readException_50 : decode cX6_readException 50 = .ok (.iload_n 3, 1) := by decide +kernel
theorem dX6_readException_51 : decode cX6_readException 51 = .ok (.invokevirtual 149, 3) := by decide +kernel
theorem dX6_readException_54 : decode cX6_readException 54 = .ok (.iinc 2 1, 3) := by decide +kernel
theorem dX6_readException_57 : decode cX6_readException 57 = .ok (.goto (-55), 3) := by decide +kernel
theorem dX6_readException_60 : decode cX6_readException 60 = .ok (.return_, 1) := by decide +kernel
theorem dX6_readRow_0 : decode cX6_readRow 0 = .ok (.bipush 40, 2) := by decide +kernel
theorem dX6_readRow_2 : decode cX6_readRow 2 = .ok (.aload_n 0, 1) := by decide +kernel
theorem dX6_readRow_3 : decode cX6_readRow 3 = .ok (.getfield 133, 3) := by decide +kernel
theorem dX6_readRow_6 : decode cX6_readRow 6 = .ok (.iadd, 1) := by decide +kernel
theorem dX6_readRow_7 : decode cX6_readRow 7 = .ok (.istore_n 1, 1) := by decide +kernel
theorem dX6_readRow_8 : decode cX6_readRow 8 = .ok (.aload_n 0, 1) := by decide +kernel
theorem dX6_readRow_9 : decode cX6_readRow 9 = .ok (.aload_n 0, 1) := by decide +kernel
theorem dX6_readRow_10 : decode cX6_readRow 10 = .ok (.invokevirtual 129, 3) := by decide +kernel
theorem dX6_readRow_13 : decode cX6_readRow 13 = .ok (.invokevirtual 157, 3) := by decide +kernel
theorem dX6_readRow_16 : decode cX6_readRow 16 = .ok (.istore_n 2, 1) := by decide +kernel
theorem dX6_readRow_17 : decode cX6_readRow 17 = .ok (.aload_n 0, 1) := by decide +kernel
theorem dX6_readRow_18 : decode cX6_readRow 18 = .ok (.iload_n 2, 1) := by decide +kernel
theorem dX6_readRow_19 : decode cX6_readRow 19 = .ok (.iconst (-1), 1) := by decide +kernel
theorem dX6_readRow_20 : decode cX6_readRow 20 = .ok (.if_icmp .eq 16, 3) := by decide +kernel
theorem dX6_readRow_23 : decode cX6_readRow 23 = .ok (.aload_n 0, 1) := by decide +kernel
theorem dX6_readRow_24 : decode cX6_readRow 24 = .ok (.getfield 133, 3) := by decide +kernel
theorem dX6_readRow_27 : decode cX6_readRow 27 = .ok (.bipush 40, 2) := by decide +kernel
theorem dX6_readRow_29 : decode cX6_readRow 29 = .ok (.if_icmp .ge 7, 3) := by decide +kernel
theorem dX6_readRow_32 : decode cX6_readRow 32 = .ok (.iconst 1, 1) := by decide +kernel
theorem dX6_readRow_33 : decode cX6_readRow 33 = .ok (.goto 4, 3) := by decide +kernel
theorem dX6_readRow_36 : decode cX6_readRow 36 = .ok (.iconst 0, 1) := by decide +kernel
theorem dX6_readRow_37 : decode cX6_readRow 37 = .ok (.invokevirtual 102, 3) := by decide +kernel
theorem dX6_readRow_40 : decode cX6_readRow 40 = .ok (.aload_n 0, 1) := by decide +kernel
theorem dX6_readRow_41 : decode cX6_readRow 41 = .ok (.getfield 95, 3) := by decide +kernel
theorem dX6_readRow_44 : decode cX6_readRow 44 = .ok (.ifCond .ne 4, 3) := by decide +kernel
theorem dX6_readRow_47 : decode cX6_readRow 47 = .ok (.return_, 1) := by decide +kernel
theorem dX6_readRow_48 : decode cX6_readRow 48 = .ok (.aload_n 0, 1) := by decide +kernel
theorem dX6_readRow_49 : decode cX6_readRow 49 = .ok (.getfield 19, 3) := by decide +kernel
theorem dX6_readRow_52 : decode cX6_readRow 52 = .ok (.iload_n 1, 1) := by decide +kernel
theorem dX6_readRow_53 : decode cX6_readRow 53 = .ok (.iload_n 2, 1) := by decide +kernel
theorem dX6_readRow_54 : decode cX6_readRow 54 = .ok (.iastore, 1) := by decide +kernel
theorem dX6_readRow_55 : decode cX6_readRow 55 = .ok (.aload_n 0, 1) := by decide +kernel
theorem dX6_readRow_56 : decode cX6_readRow 56 = .ok (.getfield 29, 3) := by decide +kernel
theorem dX6_readRow_59 : decode cX6_readRow 59 = .ok (.iload_n 1, 1) := by decide +kernel
theorem dX6_readRow_60 : decode cX6_readRow 60 = .ok (.iconst 0, 1) := by decide +kernel
theorem dX6_readRow_61 : decode cX6_readRow 61 = .ok (.iastore, 1) := by decide +kernel
theorem dX6_readRow_62 : decode cX6_readRow 62 = .ok (.iconst 0, 1) := by decide +kernel
theorem dX6_readRow_63 : decode cX6_readRow 63 = .ok (.istore_n 3, 1) := by decide +kernel
theorem dX6_readRow_64 : decode cX6_readRow 64 = .ok (.iload_n 3, 1) := by decide +kernel
theorem dX6_readRow_65 : decode cX6_readRow 65 = .ok (.iconst 3, 1) := by decide +kernel
theorem dX6_readRow_66 : decode cX6_readRow 66 = .ok (.if_icmp .ge 20, 3) := by decide +kernel
theorem dX6_readRow_69 : decode cX6_readRow 69 = .ok (.aload_n 0, 1) := by decide +kernel
theorem dX6_readRow_70 : decode cX6_readRow 70 = .ok (.getfield 41, 3) := by decide +kernel
theorem dX6_readRow_73 : decode cX6_readRow 73 = .ok (.iconst 3, 1) := by decide +kernel
theorem dX6_readRow_74 : decode cX6_readRow 74 = .ok (.iload_n 1, 1) := by decide +kernel
theorem dX6_readRow_75 : decode cX6_readRow 75 = .ok (.imul, 1) := by decide +kernel
theorem dX6_readRow_76 : decode cX6_readRow 76 = .ok (.iload_n 3, 1) := by decide +kernel
theorem dX6_readRow_77 : decode cX6_readRow 77 = .ok (.iadd, 1) := by decide +kernel
theorem dX6_readRow_78 : decode cX6_readRow 78 = .ok (.iconst 0, 1) := by decide +kernel
theorem dX6_readRow_79 : decode cX6_readRow 79 = .ok (.iastore, 1) := by decide +kernel
theorem dX6_readRow_80 : decode cX6_readRow 80 = .ok (.iinc 3 1, 3) := by decide +kernel
theorem dX6_readRow_83 : decode cX6_readRow 83 = .ok (.goto (-19), 3) := by decide +kernel
theorem dX6_readRow_86 : decode cX6_readRow 86 = .ok (.iload_n 2, 1) := by decide +kernel
theorem dX6_readRow_87 : decode cX6_readRow 87 = .ok (.ifCond .ne 11, 3) := by decide +kernel
theorem dX6_readRow_90 : decode cX6_readRow 90 = .ok (.aload_n 0, 1) := by decide +kernel
theorem dX6_readRow_91 : decode cX6_readRow 91 = .ok (.iload_n 1, 1) := by decide +kernel
theorem dX6_readRow_92 : decode cX6_readRow 92 = .ok (.invokevirtual 160, 3) := by decide +kernel
theorem dX6_readRow_95 : decode cX6_readRow 95 = .ok (.goto 136, 3) := by decide +kernel
theorem dX6_readRow_98 : decode cX6_readRow 98 = .ok (.iload_n 2, 1) := by decide +kernel
theorem dX6_readRow_99 : decode cX6_readRow 99 = .ok (.iconst 1, 1) := by decide +kernel
theorem dX6_readRow_100 : decode cX6_readRow 100 = .ok (.if_icmp .eq 8, 3) := by decide +kernel
theorem dX6_readRow_103 : decode cX6_readRow 103 = .ok (.iload_n 2, 1) := by decide +kernel
theorem dX6_readRow_104 : decode cX6_readRow 104 = .ok (.iconst 2, 1) := by decide +kernel
theorem dX6_readRow_105 : decode cX6_readRow 105 = .ok (.if_icmp .ne 11, 3) := by decide +kernel
theorem dX6_readRow_108 : decode cX6_readRow 108 = .ok (.aload_n 0, 1) := by decide +kernel
theorem dX6_readRow_109 : decode cX6_readRow 109 = .ok (.iload_n 1, 1) := by decide +kernel
theorem dX6_readRow_110 : decode cX6_readRow 110 = .ok (.invokevirtual 163, 3) := by decide +kernel
theorem dX6_readRow_113 : decode cX6_readRow 113 = .ok (.goto 118, 3) := by decide +kernel
theorem dX6_readRow_116 : decode cX6_readRow 116 = .ok (.iload_n 2, 1) := by decide +kernel
theorem dX6_readRow_117 : decode cX6_readRow 117 = .ok (.iconst 3, 1) := by decide +kernel
theorem dX6_readRow_118 : decode cX6_readRow 118 = .ok (.if_icmp .ne 25, 3) := by decide +kernel
theorem dX6_readRow_121 : decode cX6_readRow 121 = .ok (.aload_n 0, 1) := by decide +kernel
theorem dX6_readRow_122 : decode cX6_readRow 122 = .ok (.iload_n 1, 1) := by decide +kernel
theorem dX6_readRow_123 : decode cX6_readRow 123 = .ok (.iconst 1, 1) := by decide +kernel
theorem dX6_readRow_124 : decode cX6_readRow 124 = .ok (.invokevirtual 153, 3) := by decide +kernel
theorem dX6_readRow_127 : decode cX6_readRow 127 = .ok (.aload_n 0, 1) := by decide +kernel
theorem dX6_readRow_128 : decode cX6_readRow 128 = .ok (.getfield 95, 3) := by decide +kernel
theorem dX6_readRow_131 : decode cX6_readRow 131 = .ok (.ifCond .eq 100, 3) := by decide +kernel
theorem dX6_readRow_134 : decode cX6_readRow 134 = .ok (.aload_n 0, 1) := by decide +kernel
theorem dX6_readRow_135 : decode cX6_readRow 135 = .ok (.iload_n 1, 1) := by decide +kernel
theorem dX6_readRow_136 : decode cX6_readRow 136 = .ok (.iconst 0, 1) := by decide +kernel
theorem dX6_readRow_137 : decode cX6_readRow 137 = .ok (.invokevirtual 153, 3) := by decide +kernel
theorem dX6_readRow_140 : decode cX6_readRow 140 = .ok (.goto 91, 3) := by decide +kernel
theorem dX6_readRow_143 : decode cX6_readRow 143 = .ok (.iload_n 2, 1) := by decide +kernel
theorem dX6_readRow_144 : decode cX6_readRow 144 = .ok (.iconst 4, 1) := by decide +kernel
theorem dX6_readRow_145 : decode cX6_readRow 145 = .ok (.if_icmp .ne 11, 3) := by decide +kernel
theorem dX6_readRow_148 : decode cX6_readRow 148 = .ok (.aload_n 0, 1) := by decide +kernel
theorem dX6_readRow_149 : decode cX6_readRow 149 = .ok (.iload_n 1, 1) := by decide +kernel
theorem dX6_readRow_150 : decode cX6_readRow 150 = .ok (.invokevirtual 166, 3) := by decide +kernel
theorem dX6_readRow_153 : decode cX6_readRow 153 = .ok (.goto 78, 3) := by decide +kernel
theorem dX6_readRow_156 : decode cX6_readRow 156 = .ok (.iload_n 2, 1) := by decide +kernel
theorem dX6_readRow_157 : decode cX6_readRow 157 = .ok (.bipush 8, 2) := by decide +kernel
theorem dX6_readRow_159 : decode cX6_readRow 159 = .ok (.if_icmp .eq 9, 3) := by decide +kernel
theorem dX6_readRow_162 : decode cX6_readRow 162 = .ok (.iload_n 2, 1) := by decide +kernel
theorem dX6_readRow_163 : decode cX6_readRow 163 = .ok (.bipush 9, 2) := by decide +kernel
theorem dX6_readRow_165 : decode cX6_readRow 165 = .ok (.if_icmp .ne 33, 3) := by decide +kernel
theorem dX6_readRow_168 : decode cX6_readRow 168 = .ok (.aload_n 0, 1) := by decide +kernel
theorem dX6_readRow_169 : decode cX6_readRow 169 = .ok (.getfield 29, 3) := by decide +kernel
theorem dX6_readRow_172 : decode cX6_readRow 172 = .ok (.iload_n 1, 1) := by decide +kernel
theorem dX6_readRow_173 : decode cX6_readRow 173 = .ok (.aload_n 0, 1) := by decide +kernel
theorem dX6_readRow_174 : decode cX6_readRow 174 = .ok (.iconst 0, 1) := by decide +kernel
theorem dX6_readRow_175 : decode cX6_readRow 175 = .ok (.ldc 144, 2) := by decide +kernel
theorem dX6_readRow_177 : decode cX6_readRow 177 = .ok (.invokevirtual 145, 3) := by decide +kernel
theorem dX6_readRow_180 : decode cX6_readRow 180 = .ok (.iastore, 1) := by decide +kernel
theorem dX6_readRow_181 : decode cX6_readRow 181 = .ok (.aload_n 0, 1) := by decide +kernel
theorem dX6_readRow_182 : decode cX6_readRow 182 = .ok (.getfield 95, 3) := by decide +kernel
theorem dX6_readRow_185 : decode cX6_readRow 185 = .ok (.ifCond .eq 46, 3) := by decide +kernel
theorem dX6_readRow_188 : decode cX6_readRow 188 = .ok (.aload_n 0, 1) := by decide +kernel
theorem dX6_readRow_189 : decode cX6_readRow 189 = .ok (.iload_n 1, 1) := by decide +kernel
theorem dX6_readRow_190 : decode cX6_readRow 190 = .ok (.iconst 0, 1) := by decide +kernel
theorem dX6_readRow_191 : decode cX6_readRow 191 = .ok (.iconst 0, 1) := by decide +kernel
theorem dX6_readRow_192 : decode cX6_readRow 192 = .ok (.invokevirtual 149, 3) := by decide +kernel
theorem dX6_readRow_195 : decode cX6_readRow 195 = .ok (.goto 36, 3) := by decide +kernel
theorem dX6_readRow_198 : decode cX6_readRow 198 = .ok (.aload_n 0, 1) := by decide +kernel
theorem dX6_readRow_199 : decode cX6_readRow 199 = .ok (.getfield 29, 3) := by decide +kernel
theorem dX6_readRow_202 : decode cX6_readRow 202 = .ok (.iload_n 1, 1) := by decide +kernel
theorem dX6_readRow_203 : decode cX6_readRow 203 = .ok (.iload_n 2, 1) := by decide +kernel
theorem dX6_readRow_204 : decode cX6_readRow 204 = .ok (.iconst 5, 1) := by decide +kernel
theorem dX6_readRow_205 : decode cX6_readRow 205 = .ok (.if_icmp .ne 13, 3) := by decide +kernel
theorem dX6_readRow_208 : decode cX6_readRow 208 = .ok (.aload_n 0, 1) := by decide +kernel
theorem dX6_readRow_209 : decode cX6_readRow 209 = .ok (.iconst 2, 1) := by decide +kernel
theorem dX6_readRow_210 : decode cX6_readRow 210 = .ok (.bipush 100, 2) := by decide +kernel
theorem dX6_readRow_212 : decode cX6_readRow 212 = .ok (.invokevirtual 145, 3) := by decide +kernel
theorem dX6_readRow_215 : decode cX6_readRow 215 = .ok (.goto 10, 3) := by decide +kernel
theorem dX6_readRow_218 : decode cX6_readRow 218 = .ok (.aload_n 0, 1) := by decide +kernel
theorem dX6_readRow_219 : decode cX6_readRow 219 = .ok (.iconst 0, 1) := by decide +kernel
theorem dX6_readRow_220 : decode cX6_readRow 220 = .ok (.ldc 144, 2) := by decide +kernel
theorem dX6_readRow_222 : decode cX6_readRow 222 = .ok (.invokevirtual 145, 3) := by decide +kernel
theorem dX6_readRow_225 : decode cX6_readRow 225 = .ok (.iastore, 1) := by decide +kernel
theorem dX6_readRow_226 : decode cX6_readRow 226 = .ok (.aload_n 0, 1) := by decide +kernel
theorem dX6_readRow_227 : decode cX6_readRow 227 = .ok (.iload_n 1, 1) := by decide +kernel
theorem dX6_readRow_228 : decode cX6_readRow 228 = .ok (.invokevirtual 166, 3) := by decide +kernel
theorem dX6_readRow_231 : decode cX6_readRow 231 = .ok (.aload_n 0, 1) := by decide +kernel
theorem dX6_readRow_232 : decode cX6_readRow 232 = .ok (.getfield 95, 3) := by decide +kernel
theorem dX6_readRow_235 : decode cX6_readRow 235 = .ok (.ifCond .eq 7, 3) := by decide +kernel
theorem dX6_readRow_238 : decode cX6_readRow 238 = .ok (.aload_n 0, 1) := by decide +kernel
theorem dX6_readRow_239 : decode cX6_readRow 239 = .ok (.invokevirtual 169, 3) := by decide +kernel
theorem dX6_readRow_242 : decode cX6_readRow 242 = .ok (.aload_n 0, 1) := by decide +kernel
theorem dX6_readRow_243 : decode cX6_readRow 243 = .ok (.getfield 95, 3) := by decide +kernel
theorem dX6_readRow_246 : decode cX6_readRow 246 = .ok (.ifCond .eq 44, 3) := by decide +kernel
theorem dX6_readRow_249 : decode cX6_readRow 249 = .ok (.iload_n 2, 1) := by decide +kernel
theorem dX6_readRow_250 : decode cX6_readRow 250 = .ok (.iconst 2, 1) := by decide +kernel
theorem dX6_readRow_251 : decode cX6_readRow 251 = .ok (.if_icmp .gt 29, 3) := by decide +kernel
theorem dX6_readRow_254 : decode cX6_readRow 254 = .ok (.aload_n 0, 1) := by decide +kernel
theorem dX6_readRow_255 : decode cX6_readRow 255 = .ok (.getfield 44, 3) := by decide +kernel
theorem dX6_readRow_258 : decode cX6_readRow 258 = .ok (.bipush 12, 2) := by decide +kernel
theorem dX6_readRow_260 : decode cX6_readRow 260 = .ok (.aload_n 0, 1) := by decide +kernel
theorem dX6_readRow_261 : decode cX6_readRow 261 = .ok (.getfield 126, 3) := by decide +kernel
theorem dX6_readRow_264 : decode cX6_readRow 264 = .ok (.iadd, 1) := by decide +kernel
theorem dX6_readRow_265 : decode cX6_readRow 265 = .ok (.aload_n 0, 1) := by decide +kernel
theorem dX6_readRow_266 : decode cX6_readRow 266 = .ok (.getfield 133, 3) := by decide +kernel
theorem dX6_readRow_269 : decode cX6_readRow 269 = .ok (.iastore, 1) := by decide +kernel
theorem dX6_readRow_270 : decode cX6_readRow 270 = .ok (.aload_n 0, 1) := by decide +kernel
theorem dX6_readRow_271 : decode cX6_readRow 271 = .ok (.dup, 1) := by decide +kernel
theorem dX6_readRow_272 : decode cX6_readRow 272 = .ok (.getfield 126, 3) := by decide +kernel
theorem dX6_readRow_275 : decode cX6_readRow 275 = .ok (.iconst 1, 1) := by decide +kernel
theorem dX6_readRow_276 : decode cX6_readRow 276 = .ok (.iadd, 1) := by decide +kernel
theorem dX6_readRow_277 : decode cX6_readRow 277 = .ok (.putfield 126, 3) := by decide +kernel
theorem dX6_readRow_280 : decode cX6_readRow 280 = .ok (.aload_n 0, 1) := by decide +kernel
theorem dX6_readRow_281 : decode cX6_readRow 281 = .ok (.dup, 1) := by decide +kernel
theorem dX6_readRow_282 : decode cX6_readRow 282 = .ok (.getfield 133, 3) := by decide +kernel
theorem dX6_readRow_285 : decode cX6_readRow 285 = .ok (.iconst 1, 1) := by decide +kernel
theorem dX6_readRow_286 : decode cX6_readRow 286 = .ok (.iadd, 1) := by decide +kernel
theorem dX6_readRow_287 : decode cX6_readRow 287 = .ok (.putfield 133, 3) := by decide +kernel
theorem dX6_readRow_290 : decode cX6_readRow 290 = .ok (.return_, 1) := by decide +kernel
theorem dX6_unknown_0 : decode cX6_unknown 0 = .ok (.iconst 0, 1) := by decide +kernel
theorem dX6_unknown_1 : decode cX6_unknown 1 = .ok (.istore_n 1, 1) := by decide +kernel
theorem dX6_unknown_2 : decode cX6_unknown 2 = .ok (.iload_n 1, 1) := by decide +kernel
theorem dX6_unknown_3 : decode cX6_unknown 3 = .ok (.aload_n 0, 1) := by decide +kernel
theorem dX6_unknown_4 : decode cX6_unknown 4 = .ok (.getfield 133, 3) := by decide +kernel
theorem dX6_unknown_7 : decode cX6_unknown 7 = .ok (.if_icmp .ge 82, 3) := by decide +kernel
theorem dX6_unknown_10 : decode cX6_unknown 10 = .ok (.aload_n 0, 1) := by decide +kernel
theorem dX6_unknown_11 : decode cX6_unknown 11 = .ok (.getfield 19, 3) := by decide +kernel
theorem dX6_unknown_14 : decode cX6_unknown 14 = .ok (.bipush 40, 2) := by decide +kernel
theorem dX6_unknown_16 : decode cX6_unknown 16 = .ok (.iload_n 1, 1) := by decide +kernel
theorem dX6_unknown_17 : decode cX6_unknown 17 = .ok (.iadd, 1) := by decide +kernel
theorem dX6_unknown_18 : decode cX6_unknown 18 = .ok (.iaload, 1) := by decide +kernel
theorem dX6_unknown_19 : decode cX6_unknown 19 = .ok (.istore_n 2, 1) := by decide +kernel
theorem dX6_unknown_20 : decode cX6_unknown 20 = .ok (.iload_n 2, 1) := by decide +kernel
theorem dX6_unknown_21 : decode cX6_unknown 21 = .ok (.iconst 3, 1) := by decide +kernel
theorem dX6_unknown_22 : decode cX6_unknown 22 = .ok (.if_icmp .ne 27, 3) := by decide +kernel
theorem dX6_unknown_25 : decode cX6_unknown 25 = .ok (.aload_n 0, 1) := by decide +kernel
theorem dX6_unknown_26 : decode cX6_unknown 26 = .ok (.aload_n 0, 1) := by decide +kernel
theorem dX6_unknown_27 : decode cX6_unknown 27 = .ok (.getfield 22, 3) := by decide +kernel
theorem dX6_unknown_30 : decode cX6_unknown 30 = .ok (.bipush 40, 2) := by decide +kernel
theorem dX6_unknown_32 : decode cX6_unknown 32 = .ok (.iload_n 1, 1) := by decide +kernel
theorem dX6_unknown_33 : decode cX6_unknown 33 = .ok (.iadd, 1) := by decide +kernel
theorem dX6_unknown_34 : decode cX6_unknown 34 = .ok (.laload, 1) := by decide +kernel
theorem dX6_unknown_35 : decode cX6_unknown 35 = .ok (.invokevirtual 136, 3) := by decide +kernel
theorem dX6_unknown_38 : decode cX6_unknown 38 = .ok (.iconst (-1), 1) := by decide +kernel
theorem dX6_unknown_39 : decode cX6_unknown 39 = .ok (.if_icmp .ne 10, 3) := by decide +kernel
theorem dX6_unknown_42 : decode cX6_unknown 42 = .ok (.aload_n 0, 1) := by decide +kernel
theorem dX6_unknown_43 : decode cX6_unknown 43 = .ok (.getfield 66, 3) := by decide +kernel
theorem dX6_unknown_46 : decode cX6_unknown 46 = .ok (.iload_n 1, 1) := by decide +kernel
theorem dX6_unknown_47 : decode cX6_unknown 47 = .ok (.iaload, 1) := by decide +kernel
theorem dX6_unknown_48 : decode cX6_unknown 48 = .ok (.ireturn, 1) := by decide +kernel
theorem dX6_unknown_49 : decode cX6_unknown 49 = .ok (.iload_n 2, 1) := by decide +kernel
theorem dX6_unknown_50 : decode cX6_unknown 50 = .ok (.iconst 1, 1) := by decide +kernel
theorem dX6_unknown_51 : decode cX6_unknown 51 = .ok (.if_icmp .lt 32, 3) := by decide +kernel
theorem dX6_unknown_54 : decode cX6_unknown 54 = .ok (.iload_n 2, 1) := by decide +kernel
theorem dX6_unknown_55 : decode cX6_unknown 55 = .ok (.iconst 3, 1) := by decide +kernel
theorem dX6_unknown_56 : decode cX6_unknown 56 = .ok (.if_icmp .gt 27, 3) := by decide +kernel
theorem dX6_unknown_59 : decode cX6_unknown 59 = .ok (.aload_n 0, 1) := by decide +kernel
theorem dX6_unknown_60 : decode cX6_unknown 60 = .ok (.aload_n 0, 1) := by decide +kernel
theorem dX6_unknown_61 : decode cX6_unknown 61 = .ok (.getfield 26, 3) := by decide +kernel
theorem dX6_unknown_64 : decode cX6_unknown 64 = .ok (.bipush 40, 2) := by decide +kernel
theorem dX6_unknown_66 : decode cX6_unknown 66 = .ok (.iload_n 1, 1) := by decide +kernel
theorem dX6_unknown_67 : decode cX6_unknown 67 = .ok (.iadd, 1) := by decide +kernel
theorem dX6_unknown_68 : decode cX6_unknown 68 = .ok (.laload, 1) := by decide +kernel
theorem dX6_unknown_69 : decode cX6_unknown 69 = .ok (.invokevirtual 136, 3) := by decide +kernel
theorem dX6_unknown_72 : decode cX6_unknown 72 = .ok (.iconst (-1), 1) := by decide +kernel
theorem dX6_unknown_73 : decode cX6_unknown 73 = .ok (.if_icmp .ne 10, 3) := by decide +kernel
theorem dX6_unknown_76 : decode cX6_unknown 76 = .ok (.aload_n 0, 1) := by decide +kernel
theorem dX6_unknown_77 : decode cX6_unknown 77 = .ok (.getfield 69, 3) := by decide +kernel
theorem dX6_unknown_80 : decode cX6_unknown 80 = .ok (.iload_n 1, 1) := by decide +kernel
theorem dX6_unknown_81 : decode cX6_unknown 81 = .ok (.iaload, 1) := by decide +kernel
theorem dX6_unknown_82 : decode cX6_unknown 82 = .ok (.ireturn, 1) := by decide +kernel
theorem dX6_unknown_83 : decode cX6_unknown 83 = .ok (.iinc 1 1, 3) := by decide +kernel
theorem dX6_unknown_86 : decode cX6_unknown 86 = .ok (.goto (-84), 3) := by decide +kernel
theorem dX6_unknown_89 : decode cX6_unknown 89 = .ok (.iconst (-1), 1) := by decide +kernel
theorem dX6_unknown_90 : decode cX6_unknown 90 = .ok (.ireturn, 1) := by decide +kernel
theorem dX6_findFrom_0 : decode cX6_findFrom 0 = .ok (.iconst 0, 1) := by decide +kernel
theorem dX6_findFrom_1 : decode cX6_findFrom 1 = .ok (.istore_n 1, 1) := by decide +kernel
theorem dX6_findFrom_2 : decode cX6_findFrom 2 = .ok (.iload_n 1, 1) := by decide +kernel
theorem dX6_findFrom_3 : decode cX6_findFrom 3 = .ok (.aload_n 0, 1) := by decide +kernel
theorem dX6_findFrom_4 : decode cX6_findFrom 4 = .ok (.getfield 126, 3) := by decide +kernel
theorem dX6_findFrom_7 : decode cX6_findFrom 7 = .ok (.if_icmp .ge 54, 3) := by decide +kernel
theorem dX6_findFrom_10 : decode cX6_findFrom 10 = .ok (.bipush 40, 2) := by decide +kernel
theorem dX6_findFrom_12 : decode cX6_findFrom 12 = .ok (.aload_n 0, 1) := by decide +kernel
theorem dX6_findFrom_13 : decode cX6_findFrom 13 = .ok (.getfield 44, 3) := by decide +kernel
theorem dX6_findFrom_16 : decode cX6_findFrom 16 = .ok (.bipush 12, 2) := by decide +kernel
theorem dX6_findFrom_18 : decode cX6_findFrom 18 = .ok (.iload_n 1, 1) := by decide +kernel
theorem dX6_findFrom_19 : decode cX6_findFrom 19 = .ok (.iadd, 1) := by decide +kernel
theorem dX6_findFrom_20 : decode cX6_findFrom 20 = .ok (.iaload, 1) := by decide +kernel
theorem dX6_findFrom_21 : decode cX6_findFrom 21 = .ok (.iadd, 1) := by decide +kernel
theorem dX6_findFrom_22 : decode cX6_findFrom 22 = .ok (.istore_n 2, 1) := by decide +kernel
theorem dX6_findFrom_23 : decode cX6_findFrom 23 = .ok (.aload_n 0, 1) := by decide +kernel
theorem dX6_findFrom_24 : decode cX6_findFrom 24 = .ok (.getfield 47, 3) := by decide +kernel
theorem dX6_findFrom_27 : decode cX6_findFrom 27 = .ok (.bipush 12, 2) := by decide +kernel
theorem dX6_findFrom_29 : decode cX6_findFrom 29 = .ok (.iload_n 1, 1) := by decide +kernel
theorem dX6_findFrom_30 : decode cX6_findFrom 30 = .ok (.iadd, 1) := by decide +kernel
theorem dX6_findFrom_31 : decode cX6_findFrom 31 = .ok (.aload_n 0, 1) := by decide +kernel
theorem dX6_findFrom_32 : decode cX6_findFrom 32 = .ok (.getfield 19, 3) := by decide +kernel
theorem dX6_findFrom_35 : decode cX6_findFrom 35 = .ok (.iload_n 2, 1) := by decide +kernel
theorem dX6_findFrom_36 : decode cX6_findFrom 36 = .ok (.iaload, 1) := by decide +kernel
theorem dX6_findFrom_37 : decode cX6_findFrom 37 = .ok (.ifCond .ne 7, 3) := by decide +kernel
theorem dX6_findFrom_40 : decode cX6_findFrom 40 = .ok (.iconst (-1), 1) := by decide +kernel
theorem dX6_findFrom_41 : decode cX6_findFrom 41 = .ok (.goto 13, 3) := by decide +kernel
theorem dX6_findFrom_44 : decode cX6_findFrom 44 = .ok (.aload_n 0, 1) := by decide +kernel
theorem dX6_findFrom_45 : decode cX6_findFrom 45 = .ok (.aload_n 0, 1) := by decide +kernel
theorem dX6_findFrom_46 : decode cX6_findFrom 46 = .ok (.getfield 26, 3) := by decide +kernel
theorem dX6_findFrom_49 : decode cX6_findFrom 49 = .ok (.iload_n 2, 1) := by decide +kernel
theorem dX6_findFrom_50 : decode cX6_findFrom 50 = .ok (.laload, 1) := by decide +kernel
theorem dX6_findFrom_51 : decode cX6_findFrom 51 = .ok (.invokevirtual 136, 3) := by decide +kernel
theorem dX6_findFrom_54 : decode cX6_findFrom 54 = .ok (.iastore, 1) := by decide +kernel
theorem dX6_findFrom_55 : decode cX6_findFrom 55 = .ok (.iinc 1 1, 3) := by decide +kernel
theorem dX6_findFrom_58 : decode cX6_findFrom 58 = .ok (.goto (-56), 3) := by decide +kernel
theorem dX6_findFrom_61 : decode cX6_findFrom 61 = .ok (.return_, 1) := by decide +kernel
theorem dX6_ring_0 : decode cX6_ring 0 = .ok (.iconst 0, 1) := by decide +kernel
theorem dX6_ring_1 : decode cX6_ring 1 = .ok (.istore_n 1, 1) := by decide +kernel
theorem dX6_ring_2 : decode cX6_ring 2 = .ok (.iload_n 1, 1) := by decide +kernel
theorem dX6_ring_3 : decode cX6_ring 3 = .ok (.aload_n 0, 1) := by decide +kernel
theorem dX6_ring_4 : decode cX6_ring 4 = .ok (.getfield 126, 3) := by decide +kernel
theorem dX6_ring_7 : decode cX6_ring 7 = .ok (.if_icmp .ge 73, 3) := by decide +kernel
theorem dX6_ring_10 : decode cX6_ring 10 = .ok (.aload_n 0, 1) := by decide +kernel
theorem dX6_ring_11 : decode cX6_ring 11 = .ok (.getfield 47, 3) := by decide +kernel
theorem dX6_ring_14 : decode cX6_ring 14 = .ok (.bipush 12, 2) := by decide +kernel
theorem dX6_ring_16 : decode cX6_ring 16 = .ok (.iload_n 1, 1) := by decide +kernel
theorem dX6_ring_17 : decode cX6_ring 17 = .ok (.iadd, 1) := by decide +kernel
theorem dX6_ring_18 : decode cX6_ring 18 = .ok (.iaload, 1) := by decide +kernel
theorem dX6_ring_19 : decode cX6_ring 19 = .ok (.istore_n 2, 1) := by decide +kernel
theorem dX6_ring_20 : decode cX6_ring 20 = .ok (.iconst 0, 1) := by decide +kernel
theorem dX6_ring_21 : decode cX6_ring 21 = .ok (.istore_n 3, 1) := by decide +kernel
theorem dX6_ring_22 : decode cX6_ring 22 = .ok (.iload_n 3, 1) := by decide +kernel
theorem dX6_ring_23 : decode cX6_ring 23 = .ok (.bipush 12, 2) := by decide +kernel
theorem dX6_ring_25 : decode cX6_ring 25 = .ok (.if_icmp .ge 29, 3) := by decide +kernel
theorem dX6_ring_28 : decode cX6_ring 28 = .ok (.iload_n 2, 1) := by decide +kernel
theorem dX6_ring_29 : decode cX6_ring 29 = .ok (.iconst (-1), 1) := by decide +kernel
theorem dX6_ring_30 : decode cX6_ring 30 = .ok (.if_icmp .eq 24, 3) := by decide +kernel
theorem dX6_ring_33 : decode cX6_ring 33 = .ok (.iload_n 2, 1) := by decide +kernel
theorem dX6_ring_34 : decode cX6_ring 34 = .ok (.iload_n 1, 1) := by decide +kernel
theorem dX6_ring_35 : decode cX6_ring 35 = .ok (.if_icmp .eq 19, 3) := by decide +kernel
theorem dX6_ring_38 : decode cX6_ring 38 = .ok (.aload_n 0, 1) := by decide +kernel
theorem dX6_ring_39 : decode cX6_ring 39 = .ok (.getfield 47, 3) := by decide +kernel
theorem dX6_ring_42 : decode cX6_ring 42 = .ok (.bipush 12, 2) := by decide +kernel
theorem dX6_ring_44 : decode cX6_ring 44 = .ok (.iload_n 2, 1) := by decide +kernel
theorem dX6_ring_45 : decode cX6_ring 45 = .ok (.iadd, 1) := by decide +kernel
theorem dX6_ring_46 : decode cX6_ring 46 = .ok (.iaload, 1) := by decide +kernel
theorem dX6_ring_47 : decode cX6_ring 47 = .ok (.istore_n 2, 1) := by decide +kernel
theorem dX6_ring_48 : decode cX6_ring 48 = .ok (.iinc 3 1, 3) := by decide +kernel
theorem dX6_ring_51 : decode cX6_ring 51 = .ok (.goto (-29), 3) := by decide +kernel
theorem dX6_ring_54 : decode cX6_ring 54 = .ok (.iload_n 2, 1) := by decide +kernel
theorem dX6_ring_55 : decode cX6_ring 55 = .ok (.iload_n 1, 1) := by decide +kernel
theorem dX6_ring_56 : decode cX6_ring 56 = .ok (.if_icmp .ne 18, 3) := by decide +kernel
theorem dX6_ring_59 : decode cX6_ring 59 = .ok (.aload_n 0, 1) := by decide +kernel
theorem dX6_ring_60 : decode cX6_ring 60 = .ok (.getfield 66, 3) := by decide +kernel
theorem dX6_ring_63 : decode cX6_ring 63 = .ok (.aload_n 0, 1) := by decide +kernel
theorem dX6_ring_64 : decode cX6_ring 64 = .ok (.getfield 44, 3) := by decide +kernel
theorem dX6_ring_67 : decode cX6_ring 67 = .ok (.bipush 12, 2) := by decide +kernel
theorem dX6_ring_69 : decode cX6_ring 69 = .ok (.iload_n 1, 1) := by decide +kernel
theorem dX6_ring_70 : decode cX6_ring 70 = .ok (.iadd, 1) := by decide +kernel
theorem dX6_ring_71 : decode cX6_ring 71 = .ok (.iaload, 1) := by decide +kernel
theorem dX6_ring_72 : decode cX6_ring 72 = .ok (.iaload, 1) := by decide +kernel
theorem dX6_ring_73 : decode cX6_ring 73 = .ok (.ireturn, 1) := by decide +kernel
theorem dX6_ring_74 : decode cX6_ring 74 = .ok (.iinc 1 1, 3) := by decide +kernel
theorem dX6_ring_77 : decode cX6_ring 77 = .ok (.goto (-75), 3) := by decide +kernel
theorem dX6_ring_80 : decode cX6_ring 80 = .ok (.iconst (-1), 1) := by decide +kernel
theorem dX6_ring_81 : decode cX6_ring 81 = .ok (.ireturn, 1) := by decide +kernel
theorem dX6_common_0 : decode cX6_common 0 = .ok (.lload_n 0, 1) := by decide +kernel
theorem dX6_common_1 : decode cX6_common 1 = .ok (.lstore 4, 2) := by decide +kernel
theorem dX6_common_3 : decode cX6_common 3 = .ok (.lload_n 2, 1) := by decide +kernel
theorem dX6_common_4 : decode cX6_common 4 = .ok (.lstore 6, 2) := by decide +kernel
theorem dX6_common_6 : decode cX6_common 6 = .ok (.lload 6, 2) := by decide +kernel
theorem dX6_common_8 : decode cX6_common 8 = .ok (.lconst 0, 1) := by decide +kernel
theorem dX6_common_9 : decode cX6_common 9 = .ok (.lcmp, 1) := by decide +kernel
theorem dX6_common_10 : decode cX6_common 10 = .ok (.ifCond .eq 21, 3) := by decide +kernel
theorem dX6_common_13 : decode cX6_common 13 = .ok (.lload 4, 2) := by decide +kernel
theorem dX6_common_15 : decode cX6_common 15 = .ok (.lload 6, 2) := by decide +kernel
theorem dX6_common_17 : decode cX6_common 17 = .ok (.lrem, 1) := by decide +kernel
theorem dX6_common_18 : decode cX6_common 18 = .ok (.lstore 8, 2) := by decide +kernel
theorem dX6_common_20 : decode cX6_common 20 = .ok (.lload 6, 2) := by decide +kernel
theorem dX6_common_22 : decode cX6_common 22 = .ok (.lstore 4, 2) := by decide +kernel
theorem dX6_common_24 : decode cX6_common 24 = .ok (.lload 8, 2) := by decide +kernel
theorem dX6_common_26 : decode cX6_common 26 = .ok (.lstore 6, 2) := by decide +kernel
theorem dX6_common_28 : decode cX6_common 28 = .ok (.goto (-22), 3) := by decide +kernel
theorem dX6_common_31 : decode cX6_common 31 = .ok (.lload 4, 2) := by decide +kernel
theorem dX6_common_33 : decode cX6_common 33 = .ok (.lreturn, 1) := by decide +kernel
theorem dX6_reckon_0 : decode cX6_reckon 0 = .ok (.bipush 12, 2) := by decide +kernel
theorem dX6_reckon_2 : decode cX6_reckon 2 = .ok (.iload_n 1, 1) := by decide +kernel
theorem dX6_reckon_3 : decode cX6_reckon 3 = .ok (.iadd, 1) := by decide +kernel
theorem dX6_reckon_4 : decode cX6_reckon 4 = .ok (.istore_n 2, 1) := by decide +kernel
theorem dX6_reckon_5 : decode cX6_reckon 5 = .ok (.bipush 40, 2) := by decide +kernel
theorem dX6_reckon_7 : decode cX6_reckon 7 = .ok (.aload_n 0, 1) := by decide +kernel
theorem dX6_reckon_8 : decode cX6_reckon 8 = .ok (.getfield 44, 3) := by decide +kernel
theorem dX6_reckon_11 : decode cX6_reckon 11 = .ok (.iload_n 2, 1) := by decide +kernel
theorem dX6_reckon_12 : decode cX6_reckon 12 = .ok (.iaload, 1) := by decide +kernel
theorem dX6_reckon_13 : decode cX6_reckon 13 = .ok (.iadd, 1) := by decide +kernel
theorem dX6_reckon_14 : decode cX6_reckon 14 = .ok (.istore_n 3, 1) := by decide +kernel
theorem dX6_reckon_15 : decode cX6_reckon 15 = .ok (.aload_n 0, 1) := by decide +kernel
theorem dX6_reckon_16 : decode cX6_reckon 16 = .ok (.getfield 47, 3) := by decide +kernel
theorem dX6_reckon_19 : decode cX6_reckon 19 = .ok (.iload_n 2, 1) := by decide +kernel
theorem dX6_reckon_20 : decode cX6_reckon 20 = .ok (.iaload, 1) := by decide +kernel
theorem dX6_reckon_21 : decode cX6_reckon 21 = .ok (.iconst (-1), 1) := by decide +kernel
theorem dX6_reckon_22 : decode cX6_reckon 22 = .ok (.if_icmp .ne 57, 3) := by decide +kernel
theorem dX6_reckon_25 : decode cX6_reckon 25 = .ok (.aload_n 0, 1) := by decide +kernel
theorem dX6_reckon_26 : decode cX6_reckon 26 = .ok (.getfield 50, 3) := by decide +kernel
theorem dX6_reckon_29 : decode cX6_reckon 29 = .ok (.iload_n 2, 1) := by decide +kernel
theorem dX6_reckon_30 : decode cX6_reckon 30 = .ok (.aload_n 0, 1) := by decide +kernel
theorem dX6_reckon_31 : decode cX6_reckon 31 = .ok (.getfield 29, 3) := by decide +kernel
theorem dX6_reckon_34 : decode cX6_reckon 34 = .ok (.iload_n 3, 1) := by decide +kernel
theorem dX6_reckon_35 : decode cX6_reckon 35 = .ok (.iaload, 1) := by decide +kernel
theorem dX6_reckon_36 : decode cX6_reckon 36 = .ok (.i2l, 1) := by decide +kernel
theorem dX6_reckon_37 : decode cX6_reckon 37 = .ok (.lastore, 1) := by decide +kernel
theorem dX6_reckon_38 : decode cX6_reckon 38 = .ok (.aload_n 0, 1) := by decide +kernel
theorem dX6_reckon_39 : decode cX6_reckon 39 = .ok (.getfield 53, 3) := by decide +kernel
theorem dX6_reckon_42 : decode cX6_reckon 42 = .ok (.iload_n 2, 1) := by decide +kernel
theorem dX6_reckon_43 : decode cX6_reckon 43 = .ok (.aload_n 0, 1) := by decide +kernel
theorem dX6_reckon_44 : decode cX6_reckon 44 = .ok (.getfield 32, 3) := by decide +kernel
theorem dX6_reckon_47 : decode cX6_reckon 47 = .ok (.iload_n 3, 1) := by decide +kernel
theorem dX6_reckon_48 : decode cX6_reckon 48 = .ok (.iaload, 1) := by decide +kernel
theorem dX6_reckon_49 : decode cX6_reckon 49 = .ok (.i2l, 1) := by decide +kernel
theorem dX6_reckon_50 : decode cX6_reckon 50 = .ok (.lastore, 1) := by decide +kernel
theorem dX6_reckon_51 : decode cX6_reckon 51 = .ok (.aload_n 0, 1) := by decide +kernel
theorem dX6_reckon_52 : decode cX6_reckon 52 = .ok (.getfield 56, 3) := by decide +kernel
theorem dX6_reckon_55 : decode cX6_reckon 55 = .ok (.iload_n 2, 1) := by decide +kernel
theorem dX6_reckon_56 : decode cX6_reckon 56 = .ok (.aload_n 0, 1) := by decide +kernel
theorem dX6_reckon_57 : decode cX6_reckon 57 = .ok (.getfield 35, 3) := by decide +kernel
theorem dX6_reckon_60 : decode cX6_reckon 60 = .ok (.iload_n 3, 1) := by decide +kernel
theorem dX6_reckon_61 : decode cX6_reckon 61 = .ok (.iaload, 1) := by decide +kernel
theorem dX6_reckon_62 : decode cX6_reckon 62 = .ok (.i2l, 1) := by decide +kernel
theorem dX6_reckon_63 : decode cX6_reckon 63 = .ok (.lastore, 1) := by decide +kernel
theorem dX6_reckon_64 : decode cX6_reckon 64 = .ok (.aload_n 0, 1) := by decide +kernel
theorem dX6_reckon_65 : decode cX6_reckon 65 = .ok (.getfield 59, 3) := by decide +kernel
theorem dX6_reckon_68 : decode cX6_reckon 68 = .ok (.iload_n 2, 1) := by decide +kernel
theorem dX6_reckon_69 : decode cX6_reckon 69 = .ok (.lconst 1, 1) := by decide +kernel
theorem dX6_reckon_70 : decode cX6_reckon 70 = .ok (.lastore, 1) := by decide +kernel
theorem dX6_reckon_71 : decode cX6_reckon 71 = .ok (.aload_n 0, 1) := by decide +kernel
theorem dX6_reckon_72 : decode cX6_reckon 72 = .ok (.getfield 62, 3) := by decide +kernel
theorem dX6_reckon_75 : decode cX6_reckon 75 = .ok (.iload_n 2, 1) := by decide +kernel
theorem dX6_reckon_76 : decode cX6_reckon 76 = .ok (.iconst 0, 1) := by decide +kernel
theorem dX6_reckon_77 : decode cX6_reckon 77 = .ok (.bastore, 1) := by decide +kernel
theorem dX6_reckon_78 : decode cX6_reckon 78 = .ok (.return_, 1) := by decide +kernel
theorem dX6_reckon_79 : decode cX6_reckon 79 = .ok (.bipush 12, 2) := by decide +kernel
theorem dX6_reckon_81 : decode cX6_reckon 81 = .ok (.aload_n 0, 1) := by decide +kernel
theorem dX6_reckon_82 : decode cX6_reckon 82 = .ok (.getfield 47, 3) := by decide +kernel
theorem dX6_reckon_85 : decode cX6_reckon 85 = .ok (.iload_n 2, 1) := by decide +kernel
theorem dX6_reckon_86 : decode cX6_reckon 86 = .ok (.iaload, 1) := by decide +kernel
theorem dX6_reckon_87 : decode cX6_reckon 87 = .ok (.iadd, 1) := by decide +kernel
theorem dX6_reckon_88 : decode cX6_reckon 88 = .ok (.istore 4, 2) := by decide +kernel
theorem dX6_reckon_90 : decode cX6_reckon 90 = .ok (.aload_n 0, 1) := by decide +kernel
theorem dX6_reckon_91 : decode cX6_reckon 91 = .ok (.getfield 50, 3) := by decide +kernel
theorem dX6_reckon_94 : decode cX6_reckon 94 = .ok (.iload 4, 2) := by decide +kernel
theorem dX6_reckon_96 : decode cX6_reckon 96 = .ok (.laload, 1) := by decide +kernel
theorem dX6_reckon_97 : decode cX6_reckon 97 = .ok (.aload_n 0, 1) := by decide +kernel
theorem dX6_reckon_98 : decode cX6_reckon 98 = .ok (.getfield 29, 3) := by decide +kernel
theorem dX6_reckon_101 : decode cX6_reckon 101 = .ok (.iload_n 3, 1) := by decide +kernel
theorem dX6_reckon_102 : decode cX6_reckon 102 = .ok (.iaload, 1) := by decide +kernel
theorem dX6_reckon_103 : decode cX6_reckon 103 = .ok (.i2l, 1) := by decide +kernel
theorem dX6_reckon_104 : decode cX6_reckon 104 = .ok (.lmul, 1) := by decide +kernel
theorem dX6_reckon_105 : decode cX6_reckon 105 = .ok (.lstore 5, 2) := by decide +kernel
theorem dX6_reckon_107 : decode cX6_reckon 107 = .ok (.aload_n 0, 1) := by decide +kernel
theorem dX6_reckon_108 : decode cX6_reckon 108 = .ok (.getfield 19, 3) := by decide +kernel
theorem dX6_reckon_111 : decode cX6_reckon 111 = .ok (.iload_n 3, 1) := by decide +kernel
theorem dX6_reckon_112 : decode cX6_reckon 112 = .ok (.iaload, 1) := by decide +kernel
theorem dX6_reckon_113 : decode cX6_reckon 113 = .ok (.iconst 2, 1) := by decide +kernel
theorem dX6_reckon_114 : decode cX6_reckon 114 = .ok (.if_icmp .ne 13, 3) := by decide +kernel
theorem dX6_reckon_117 : decode cX6_reckon 117 = .ok (.aload_n 0, 1) := by decide +kernel
theorem dX6_reckon_118 : decode cX6_reckon 118 = .ok (.getfield 56, 3) := by decide +kernel
theorem dX6_reckon_121 : decode cX6_reckon 121 = .ok (.iload 4, 2) := by decide +kernel
theorem dX6_reckon_123 : decode cX6_reckon 123 = .ok (.laload, 1) := by decide +kernel
theorem dX6_reckon_124 : decode cX6_reckon 124 = .ok (.goto 10, 3) := by decide +kernel
theorem dX6_reckon_127 : decode cX6_reckon 127 = .ok (.aload_n 0, 1) := by decide +kernel
theorem dX6_reckon_128 : decode cX6_reckon 128 = .ok (.getfield 53, 3) := by decide +kernel
theorem dX6_reckon_131 : decode cX6_reckon 131 = .ok (.iload 4, 2) := by decide +kernel
theorem dX6_reckon_133 : decode cX6_reckon 133 = .ok (.laload, 1) := by decide +kernel
theorem dX6_reckon_134 : decode cX6_reckon 134 = .ok (.aload_n 0, 1) := by decide +kernel
theorem dX6_reckon_135 : decode cX6_reckon 135 = .ok (.getfield 29, 3) := by decide +kernel
theorem dX6_reckon_138 : decode cX6_reckon 138 = .ok (.iload_n 3, 1) := by decide +kernel
theorem dX6_reckon_139 : decode cX6_reckon 139 = .ok (.iaload, 1) := by decide +kernel
theorem dX6_reckon_140 : decode cX6_reckon 140 = .ok (.i2l, 1) := by decide +kernel
theorem dX6_reckon_141 : decode cX6_reckon 141 = .ok (.lmul, 1) := by decide +kernel
theorem dX6_reckon_142 : decode cX6_reckon 142 = .ok (.lstore 7, 2) := by decide +kernel
theorem dX6_reckon_144 : decode cX6_reckon 144 = .ok (.aload_n 0, 1) := by decide +kernel
theorem dX6_reckon_145 : decode cX6_reckon 145 = .ok (.getfield 19, 3) := by decide +kernel
theorem dX6_reckon_148 : decode cX6_reckon 148 = .ok (.iload_n 3, 1) := by decide +kernel
theorem dX6_reckon_149 : decode cX6_reckon 149 = .ok (.iaload, 1) := by decide +kernel
theorem dX6_reckon_150 : decode cX6_reckon 150 = .ok (.iconst 2, 1) := by decide +kernel
theorem dX6_reckon_151 : decode cX6_reckon 151 = .ok (.if_icmp .ne 13, 3) := by decide +kernel
theorem dX6_reckon_154 : decode cX6_reckon 154 = .ok (.aload_n 0, 1) := by decide +kernel
theorem dX6_reckon_155 : decode cX6_reckon 155 = .ok (.getfield 53, 3) := by decide +kernel
theorem dX6_reckon_158 : decode cX6_reckon 158 = .ok (.iload 4, 2) := by decide +kernel
theorem dX6_reckon_160 : decode cX6_reckon 160 = .ok (.laload, 1) := by decide +kernel
theorem dX6_reckon_161 : decode cX6_reckon 161 = .ok (.goto 10, 3) := by decide +kernel
theorem dX6_reckon_164 : decode cX6_reckon 164 = .ok (.aload_n 0, 1) := by decide +kernel
theorem dX6_reckon_165 : decode cX6_reckon 165 = .ok (.getfield 56, 3) := by decide +kernel
theorem dX6_reckon_168 : decode cX6_reckon 168 = .ok (.iload 4, 2) := by decide +kernel
theorem dX6_reckon_170 : decode cX6_reckon 170 = .ok (.laload, 1) := by decide +kernel
theorem dX6_reckon_171 : decode cX6_reckon 171 = .ok (.aload_n 0, 1) := by decide +kernel
theorem dX6_reckon_172 : decode cX6_reckon 172 = .ok (.getfield 29, 3) := by decide +kernel
theorem dX6_reckon_175 : decode cX6_reckon 175 = .ok (.iload_n 3, 1) := by decide +kernel
theorem dX6_reckon_176 : decode cX6_reckon 176 = .ok (.iaload, 1) := by decide +kernel
theorem dX6_reckon_177 : decode cX6_reckon 177 = .ok (.i2l, 1) := by decide +kernel
theorem dX6_reckon_178 : decode cX6_reckon 178 = .ok (.lmul, 1) := by decide +kernel
theorem dX6_reckon_179 : decode cX6_reckon 179 = .ok (.lstore 9, 2) := by decide +kernel
theorem dX6_reckon_181 : decode cX6_reckon 181 = .ok (.aload_n 0, 1) := by decide +kernel
theorem dX6_reckon_182 : decode cX6_reckon 182 = .ok (.getfield 59, 3) := by decide +kernel
theorem dX6_reckon_185 : decode cX6_reckon 185 = .ok (.iload 4, 2) := by decide +kernel
theorem dX6_reckon_187 : decode cX6_reckon 187 = .ok (.laload, 1) := by decide +kernel
theorem dX6_reckon_188 : decode cX6_reckon 188 = .ok (.aload_n 0, 1) := by decide +kernel
theorem dX6_reckon_189 : decode cX6_reckon 189 = .ok (.getfield 32, 3) := by decide +kernel
theorem dX6_reckon_192 : decode cX6_reckon 192 = .ok (.iload_n 3, 1) := by decide +kernel
theorem dX6_reckon_193 : decode cX6_reckon 193 = .ok (.iaload, 1) := by decide +kernel
theorem dX6_reckon_194 : decode cX6_reckon 194 = .ok (.i2l, 1) := by decide +kernel
theorem dX6_reckon_195 : decode cX6_reckon 195 = .ok (.lmul, 1) := by decide +kernel
theorem dX6_reckon_196 : decode cX6_reckon 196 = .ok (.lstore 11, 2) := by decide +kernel
theorem dX6_reckon_198 : decode cX6_reckon 198 = .ok (.lload 5, 2) := by decide +kernel
theorem dX6_reckon_200 : decode cX6_reckon 200 = .ok (.lload 7, 2) := by decide +kernel
theorem dX6_reckon_202 : decode cX6_reckon 202 = .ok (.invokestatic 172, 3) := by decide +kernel
theorem dX6_reckon_205 : decode cX6_reckon 205 = .ok (.lload 9, 2) := by decide +kernel
theorem dX6_reckon_207 : decode cX6_reckon 207 = .ok (.lload 11, 2) := by decide +kernel
theorem dX6_reckon_209 : decode cX6_reckon 209 = .ok (.invokestatic 172, 3) := by decide +kernel
theorem dX6_reckon_212 : decode cX6_reckon 212 = .ok (.invokestatic 172, 3) := by decide +kernel
theorem dX6_reckon_215 : decode cX6_reckon 215 = .ok (.lstore 13, 2) := by decide +kernel
theorem dX6_reckon_217 : decode cX6_reckon 217 = .ok (.aload_n 0, 1) := by decide +kernel
theorem dX6_reckon_218 : decode cX6_reckon 218 = .ok (.getfield 50, 3) := by decide +kernel
theorem dX6_reckon_221 : decode cX6_reckon 221 = .ok (.iload_n 2, 1) := by decide +kernel
theorem dX6_reckon_222 : decode cX6_reckon 222 = .ok (.lload 5, 2) := by decide +kernel
theorem dX6_reckon_224 : decode cX6_reckon 224 = .ok (.lload 13, 2) := by decide +kernel
theorem dX6_reckon_226 : decode cX6_reckon 226 = .ok (.ldiv, 1) := by decide +kernel
theorem dX6_reckon_227 : decode cX6_reckon 227 = .ok (.lastore, 1) := by decide +kernel
theorem dX6_reckon_228 : decode cX6_reckon 228 = .ok (.aload_n 0, 1) := by decide +kernel
theorem dX6_reckon_229 : decode cX6_reckon 229 = .ok (.getfield 53, 3) := by decide +kernel
theorem dX6_reckon_232 : decode cX6_reckon 232 = .ok (.iload_n 2, 1) := by decide +kernel
theorem dX6_reckon_233 : decode cX6_reckon 233 = .ok (.lload 7, 2) := by decide +kernel
theorem dX6_reckon_235 : decode cX6_reckon 235 = .ok (.lload 13, 2) := by decide +kernel
theorem dX6_reckon_237 : decode cX6_reckon 237 = .ok (.ldiv, 1) := by decide +kernel
theorem dX6_reckon_238 : decode cX6_reckon 238 = .ok (.lastore, 1) := by decide +kernel
theorem dX6_reckon_239 : decode cX6_reckon 239 = .ok (.aload_n 0, 1) := by decide +kernel
theorem dX6_reckon_240 : decode cX6_reckon 240 = .ok (.getfield 56, 3) := by decide +kernel
theorem dX6_reckon_243 : decode cX6_reckon 243 = .ok (.iload_n 2, 1) := by decide +kernel
theorem dX6_reckon_244 : decode cX6_reckon 244 = .ok (.lload 9, 2) := by decide +kernel
theorem dX6_reckon_246 : decode cX6_reckon 246 = .ok (.lload 13, 2) := by decide +kernel
theorem dX6_reckon_248 : decode cX6_reckon 248 = .ok (.ldiv, 1) := by decide +kernel
theorem dX6_reckon_249 : decode cX6_reckon 249 = .ok (.lastore, 1) := by decide +kernel
theorem dX6_reckon_250 : decode cX6_reckon 250 = .ok (.aload_n 0, 1) := by decide +kernel
theorem dX6_reckon_251 : decode cX6_reckon 251 = .ok (.getfield 59, 3) := by decide +kernel
theorem dX6_reckon_254 : decode cX6_reckon 254 = .ok (.iload_n 2, 1) := by decide +kernel
theorem dX6_reckon_255 : decode cX6_reckon 255 = .ok (.lload 11, 2) := by decide +kernel
theorem dX6_reckon_257 : decode cX6_reckon 257 = .ok (.lload 13, 2) := by decide +kernel
theorem dX6_reckon_259 : decode cX6_reckon 259 = .ok (.ldiv, 1) := by decide +kernel
theorem dX6_reckon_260 : decode cX6_reckon 260 = .ok (.lastore, 1) := by decide +kernel
theorem dX6_reckon_261 : decode cX6_reckon 261 = .ok (.aload_n 0, 1) := by decide +kernel
theorem dX6_reckon_262 : decode cX6_reckon 262 = .ok (.getfield 62, 3) := by decide +kernel
theorem dX6_reckon_265 : decode cX6_reckon 265 = .ok (.iload_n 2, 1) := by decide +kernel
theorem dX6_reckon_266 : decode cX6_reckon 266 = .ok (.aload_n 0, 1) := by decide +kernel
theorem dX6_reckon_267 : decode cX6_reckon 267 = .ok (.getfield 62, 3) := by decide +kernel
theorem dX6_reckon_270 : decode cX6_reckon 270 = .ok (.iload 4, 2) := by decide +kernel
theorem dX6_reckon_272 : decode cX6_reckon 272 = .ok (.baload, 1) := by decide +kernel
theorem dX6_reckon_273 : decode cX6_reckon 273 = .ok (.ifCond .ne 29, 3) := by decide +kernel
theorem dX6_reckon_276 : decode cX6_reckon 276 = .ok (.aload_n 0, 1) := by decide +kernel
theorem dX6_reckon_277 : decode cX6_reckon 277 = .ok (.getfield 50, 3) := by decide +kernel
theorem dX6_reckon_280 : decode cX6_reckon 280 = .ok (.iload_n 2, 1) := by decide +kernel
theorem dX6_reckon_281 : decode cX6_reckon 281 = .ok (.laload, 1) := by decide +kernel
theorem dX6_reckon_282 : decode cX6_reckon 282 = .ok (.ldc2_w 176, 3) := by decide +kernel
theorem dX6_reckon_285 : decode cX6_reckon 285 = .ok (.lcmp, 1) := by decide +kernel
theorem dX6_reckon_286 : decode cX6_reckon 286 = .ok (.ifCond .gt 16, 3) := by decide +kernel
theorem dX6_reckon_289 : decode cX6_reckon 289 = .ok (.aload_n 0, 1) := by decide +kernel
theorem dX6_reckon_290 : decode cX6_reckon 290 = .ok (.getfield 59, 3) := by decide +kernel
theorem dX6_reckon_293 : decode cX6_reckon 293 = .ok (.iload_n 2, 1) := by decide +kernel
theorem dX6_reckon_294 : decode cX6_reckon 294 = .ok (.laload, 1) := by decide +kernel
theorem dX6_reckon_295 : decode cX6_reckon 295 = .ok (.ldc2_w 176, 3) := by decide +kernel
theorem dX6_reckon_298 : decode cX6_reckon 298 = .ok (.lcmp, 1) := by decide +kernel
theorem dX6_reckon_299 : decode cX6_reckon 299 = .ok (.ifCond .le 7, 3) := by decide +kernel
theorem dX6_reckon_302 : decode cX6_reckon 302 = .ok (.iconst 1, 1) := by decide +kernel
theorem dX6_reckon_303 : decode cX6_reckon 303 = .ok (.goto 4, 3) := by decide +kernel
theorem dX6_reckon_306 : decode cX6_reckon 306 = .ok (.iconst 0, 1) := by decide +kernel
theorem dX6_reckon_307 : decode cX6_reckon 307 = .ok (.bastore, 1) := by decide +kernel
theorem dX6_reckon_308 : decode cX6_reckon 308 = .ok (.aload_n 0, 1) := by decide +kernel
theorem dX6_reckon_309 : decode cX6_reckon 309 = .ok (.getfield 62, 3) := by decide +kernel
theorem dX6_reckon_312 : decode cX6_reckon 312 = .ok (.iload_n 2, 1) := by decide +kernel
theorem dX6_reckon_313 : decode cX6_reckon 313 = .ok (.baload, 1) := by decide +kernel
theorem dX6_reckon_314 : decode cX6_reckon 314 = .ok (.ifCond .eq 33, 3) := by decide +kernel
theorem dX6_reckon_317 : decode cX6_reckon 317 = .ok (.aload_n 0, 1) := by decide +kernel
theorem dX6_reckon_318 : decode cX6_reckon 318 = .ok (.getfield 50, 3) := by decide +kernel
theorem dX6_reckon_321 : decode cX6_reckon 321 = .ok (.iload_n 2, 1) := by decide +kernel
theorem dX6_reckon_322 : decode cX6_reckon 322 = .ok (.ldc2_w 178, 3) := by decide +kernel
theorem dX6_reckon_325 : decode cX6_reckon 325 = .ok (.lastore, 1) := by decide +kernel
theorem dX6_reckon_326 : decode cX6_reckon 326 = .ok (.aload_n 0, 1) := by decide +kernel
theorem dX6_reckon_327 : decode cX6_reckon 327 = .ok (.getfield 53, 3) := by decide +kernel
theorem dX6_reckon_330 : decode cX6_reckon 330 = .ok (.iload_n 2, 1) := by decide +kernel
theorem dX6_reckon_331 : decode cX6_reckon 331 = .ok (.lconst 0, 1) := by decide +kernel
theorem dX6_reckon_332 : decode cX6_reckon 332 = .ok (.lastore, 1) := by decide +kernel
theorem dX6_reckon_333 : decode cX6_reckon 333 = .ok (.aload_n 0, 1) := by decide +kernel
theorem dX6_reckon_334 : decode cX6_reckon 334 = .ok (.getfield 56, 3) := by decide +kernel
theorem dX6_reckon_337 : decode cX6_reckon 337 = .ok (.iload_n 2, 1) := by decide +kernel
theorem dX6_reckon_338 : decode cX6_reckon 338 = .ok (.lconst 1, 1) := by decide +kernel
theorem dX6_reckon_339 : decode cX6_reckon 339 = .ok (.lastore, 1) := by decide +kernel
theorem dX6_reckon_340 : decode cX6_reckon 340 = .ok (.aload_n 0, 1) := by decide +kernel
theorem dX6_reckon_341 : decode cX6_reckon 341 = .ok (.getfield 59, 3) := by decide +kernel
theorem dX6_reckon_344 : decode cX6_reckon 344 = .ok (.iload_n 2, 1) := by decide +kernel
theorem dX6_reckon_345 : decode cX6_reckon 345 = .ok (.lconst 1, 1) := by decide +kernel
theorem dX6_reckon_346 : decode cX6_reckon 346 = .ok (.lastore, 1) := by decide +kernel
theorem dX6_reckon_347 : decode cX6_reckon 347 = .ok (.return_, 1) := by decide +kernel
theorem dX6_depth_0 : decode cX6_depth 0 = .ok (.iconst 0, 1) := by decide +kernel
theorem dX6_depth_1 : decode cX6_depth 1 = .ok (.istore_n 2, 1) := by decide +kernel
theorem dX6_depth_2 : decode cX6_depth 2 = .ok (.aload_n 0, 1) := by decide +kernel
theorem dX6_depth_3 : decode cX6_depth 3 = .ok (.getfield 47, 3) := by decide +kernel
theorem dX6_depth_6 : decode cX6_depth 6 = .ok (.bipush 12, 2) := by decide +kernel
theorem dX6_depth_8 : decode cX6_depth 8 = .ok (.iload_n 1, 1) := by decide +kernel
theorem dX6_depth_9 : decode cX6_depth 9 = .ok (.iadd, 1) := by decide +kernel
theorem dX6_depth_10 : decode cX6_depth 10 = .ok (.iaload, 1) := by decide +kernel
theorem dX6_depth_11 : decode cX6_depth 11 = .ok (.istore_n 3, 1) := by decide +kernel
theorem dX6_depth_12 : decode cX6_depth 12 = .ok (.iload_n 3, 1) := by decide +kernel
theorem dX6_depth_13 : decode cX6_depth 13 = .ok (.iconst (-1), 1) := by decide +kernel
theorem dX6_depth_14 : decode cX6_depth 14 = .ok (.if_icmp .eq 19, 3) := by decide +kernel
theorem dX6_depth_17 : decode cX6_depth 17 = .ok (.iinc 2 1, 3) := by decide +kernel
theorem dX6_depth_20 : decode cX6_depth 20 = .ok (.aload_n 0, 1) := by decide +kernel
theorem dX6_depth_21 : decode cX6_depth 21 = .ok (.getfield 47, 3) := by decide +kernel
theorem dX6_depth_24 : decode cX6_depth 24 = .ok (.bipush 12, 2) := by decide +kernel
theorem dX6_depth_26 : decode cX6_depth 26 = .ok (.iload_n 3, 1) := by decide +kernel
theorem dX6_depth_27 : decode cX6_depth 27 = .ok (.iadd, 1) := by decide +kernel
theorem dX6_depth_28 : decode cX6_depth 28 = .ok (.iaload, 1) := by decide +kernel
theorem dX6_depth_29 : decode cX6_depth 29 = .ok (.istore_n 3, 1) := by decide +kernel
theorem dX6_depth_30 : decode cX6_depth 30 = .ok (.goto (-18), 3) := by decide +kernel
theorem dX6_depth_33 : decode cX6_depth 33 = .ok (.iload_n 2, 1) := by decide +kernel
theorem dX6_depth_34 : decode cX6_depth 34 = .ok (.ireturn, 1) := by decide +kernel
theorem dX6_greatOne_0 : decode cX6_greatOne 0 = .ok (.iconst 0, 1) := by decide +kernel
theorem dX6_greatOne_1 : decode cX6_greatOne 1 = .ok (.istore_n 1, 1) := by decide +kernel
theorem dX6_greatOne_2 : decode cX6_greatOne 2 = .ok (.iload_n 1, 1) := by decide +kernel
theorem dX6_greatOne_3 : decode cX6_greatOne 3 = .ok (.bipush 12, 2) := by decide +kernel
theorem dX6_greatOne_5 : decode cX6_greatOne 5 = .ok (.if_icmp .ge 39, 3) := by decide +kernel
theorem dX6_greatOne_8 : decode cX6_greatOne 8 = .ok (.iconst 0, 1) := by decide +kernel
theorem dX6_greatOne_9 : decode cX6_greatOne 9 = .ok (.istore_n 2, 1) := by decide +kernel
theorem dX6_greatOne_10 : decode cX6_greatOne 10 = .ok (.iload_n 2, 1) := by decide +kernel
theorem dX6_greatOne_11 : decode cX6_greatOne 11 = .ok (.aload_n 0, 1) := by decide +kernel
theorem dX6_greatOne_12 : decode cX6_greatOne 12 = .ok (.getfield 126, 3) := by decide +kernel
theorem dX6_greatOne_15 : decode cX6_greatOne 15 = .ok (.if_icmp .ge 23, 3) := by decide +kernel
theorem dX6_greatOne_18 : decode cX6_greatOne 18 = .ok (.aload_n 0, 1) := by decide +kernel
theorem dX6_greatOne_19 : decode cX6_greatOne 19 = .ok (.iload_n 2, 1) := by decide +kernel
theorem dX6_greatOne_20 : decode cX6_greatOne 20 = .ok (.invokevirtual 180, 3) := by decide +kernel
theorem dX6_greatOne_23 : decode cX6_greatOne 23 = .ok (.iload_n 1, 1) := by decide +kernel
theorem dX6_greatOne_24 : decode cX6_greatOne 24 = .ok (.if_icmp .ne 8, 3) := by decide +kernel
theorem dX6_greatOne_27 : decode cX6_greatOne 27 = .ok (.aload_n 0, 1) := by decide +kernel
theorem dX6_greatOne_28 : decode cX6_greatOne 28 = .ok (.iload_n 2, 1) := by decide +kernel
theorem dX6_greatOne_29 : decode cX6_greatOne 29 = .ok (.invokevirtual 184, 3) := by decide +kernel
theorem dX6_greatOne_32 : decode cX6_greatOne 32 = .ok (.iinc 2 1, 3) := by decide +kernel
theorem dX6_greatOne_35 : decode cX6_greatOne 35 = .ok (.goto (-25), 3) := by decide +kernel
theorem dX6_greatOne_38 : decode cX6_greatOne 38 = .ok (.iinc 1 1, 3) := by decide +kernel
theorem dX6_greatOne_41 : decode cX6_greatOne 41 = .ok (.goto (-39), 3) := by decide +kernel
theorem dX6_greatOne_44 : decode cX6_greatOne 44 = .ok (.iconst 0, 1) := by decide +kernel
theorem dX6_greatOne_45 : decode cX6_greatOne 45 = .ok (.istore_n 1, 1) := by decide +kernel
theorem dX6_greatOne_46 : decode cX6_greatOne 46 = .ok (.iload_n 1, 1) := by decide +kernel
theorem dX6_greatOne_47 : decode cX6_greatOne 47 = .ok (.aload_n 0, 1) := by decide +kernel
theorem dX6_greatOne_48 : decode cX6_greatOne 48 = .ok (.getfield 126, 3) := by decide +kernel
theorem dX6_greatOne_51 : decode cX6_greatOne 51 = .ok (.if_icmp .ge 36, 3) := by decide +kernel
theorem dX6_greatOne_54 : decode cX6_greatOne 54 = .ok (.aload_n 0, 1) := by decide +kernel
theorem dX6_greatOne_55 : decode cX6_greatOne 55 = .ok (.getfield 62, 3) := by decide +kernel
theorem dX6_greatOne_58 : decode cX6_greatOne 58 = .ok (.bipush 12, 2) := by decide +kernel
theorem dX6_greatOne_60 : decode cX6_greatOne 60 = .ok (.iload_n 1, 1) := by decide +kernel
theorem dX6_greatOne_61 : decode cX6_greatOne 61 = .ok (.iadd, 1) := by decide +kernel
theorem dX6_greatOne_62 : decode cX6_greatOne 62 = .ok (.baload, 1) := by decide +kernel
theorem dX6_greatOne_63 : decode cX6_greatOne 63 = .ok (.ifCond .eq 18, 3) := by decide +kernel
theorem dX6_greatOne_66 : decode cX6_greatOne 66 = .ok (.aload_n 0, 1) := by decide +kernel
theorem dX6_greatOne_67 : decode cX6_greatOne 67 = .ok (.getfield 66, 3) := by decide +kernel
theorem dX6_greatOne_70 : decode cX6_greatOne 70 = .ok (.aload_n 0, 1) := by decide +kernel
theorem dX6_greatOne_71 : decode cX6_greatOne 71 = .ok (.getfield 44, 3) := by decide +kernel
theorem dX6_greatOne_74 : decode cX6_greatOne 74 = .ok (.bipush 12, 2) := by decide +kernel
theorem dX6_greatOne_76 : decode cX6_greatOne 76 = .ok (.iload_n 1, 1) := by decide +kernel
theorem dX6_greatOne_77 : decode cX6_greatOne 77 = .ok (.iadd, 1) := by decide +kernel
theorem dX6_greatOne_78 : decode cX6_greatOne 78 = .ok (.iaload, 1) := by decide +kernel
theorem dX6_greatOne_79 : decode cX6_greatOne 79 = .ok (.iaload, 1) := by decide +kernel
theorem dX6_greatOne_80 : decode cX6_greatOne 80 = .ok (.ireturn, 1) := by decide +kernel
theorem dX6_greatOne_81 : decode cX6_greatOne 81 = .ok (.iinc 1 1, 3) := by decide +kernel
theorem dX6_greatOne_84 : decode cX6_greatOne 84 = .ok (.goto (-38), 3) := by decide +kernel
theorem dX6_greatOne_87 : decode cX6_greatOne 87 = .ok (.iconst (-1), 1) := by decide +kernel
theorem dX6_greatOne_88 : decode cX6_greatOne 88 = .ok (.ireturn, 1) := by decide +kernel
theorem dX6_read_0 : decode cX6_read 0 = .ok (.aload_n 0, 1) := by decide +kernel
theorem dX6_read_1 : decode cX6_read 1 = .ok (.iconst 0, 1) := by decide +kernel
theorem dX6_read_2 : decode cX6_read 2 = .ok (.putfield 75, 3) := by decide +kernel
theorem dX6_read_5 : decode cX6_read 5 = .ok (.aload_n 0, 1) := by decide +kernel
theorem dX6_read_6 : decode cX6_read 6 = .ok (.iconst 0, 1) := by decide +kernel
theorem dX6_read_7 : decode cX6_read 7 = .ok (.putfield 89, 3) := by decide +kernel
theorem dX6_read_10 : decode cX6_read 10 = .ok (.aload_n 0, 1) := by decide +kernel
theorem dX6_read_11 : decode cX6_read 11 = .ok (.iconst 1, 1) := by decide +kernel
theorem dX6_read_12 : decode cX6_read 12 = .ok (.putfield 95, 3) := by decide +kernel
theorem dX6_read_15 : decode cX6_read 15 = .ok (.aload_n 0, 1) := by decide +kernel
theorem dX6_read_16 : decode cX6_read 16 = .ok (.iconst 0, 1) := by decide +kernel
theorem dX6_read_17 : decode cX6_read 17 = .ok (.putfield 133, 3) := by decide +kernel
theorem dX6_read_20 : decode cX6_read 20 = .ok (.aload_n 0, 1) := by decide +kernel
theorem dX6_read_21 : decode cX6_read 21 = .ok (.iconst 0, 1) := by decide +kernel
theorem dX6_read_22 : decode cX6_read 22 = .ok (.putfield 126, 3) := by decide +kernel
theorem dX6_read_25 : decode cX6_read 25 = .ok (.aload_n 0, 1) := by decide +kernel
theorem dX6_read_26 : decode cX6_read 26 = .ok (.invokevirtual 99, 3) := by decide +kernel
theorem dX6_read_29 : decode cX6_read 29 = .ok (.aload_n 0, 1) := by decide +kernel
theorem dX6_read_30 : decode cX6_read 30 = .ok (.getfield 95, 3) := by decide +kernel
theorem dX6_read_33 : decode cX6_read 33 = .ok (.ifCond .eq 21, 3) := by decide +kernel
theorem dX6_read_36 : decode cX6_read 36 = .ok (.aload_n 0, 1) := by decide +kernel
theorem dX6_read_37 : decode cX6_read 37 = .ok (.getfield 92, 3) := by decide +kernel
theorem dX6_read_40 : decode cX6_read 40 = .ok (.aload_n 0, 1) := by decide +kernel
theorem dX6_read_41 : decode cX6_read 41 = .ok (.getfield 86, 3) := by decide +kernel
theorem dX6_read_44 : decode cX6_read 44 = .ok (.if_icmp .ge 10, 3) := by decide +kernel
theorem dX6_read_47 : decode cX6_read 47 = .ok (.aload_n 0, 1) := by decide +kernel
theorem dX6_read_48 : decode cX6_read 48 = .ok (.invokevirtual 187, 3) := by decide +kernel
theorem dX6_read_51 : decode cX6_read 51 = .ok (.goto (-22), 3) := by decide +kernel
theorem dX6_read_54 : decode cX6_read 54 = .ok (.aload_n 0, 1) := by decide +kernel
theorem dX6_read_55 : decode cX6_read 55 = .ok (.iconst 0, 1) := by decide +kernel
theorem dX6_read_56 : decode cX6_read 56 = .ok (.putfield 86, 3) := by decide +kernel
theorem dX6_read_59 : decode cX6_read 59 = .ok (.aload_n 0, 1) := by decide +kernel
theorem dX6_read_60 : decode cX6_read 60 = .ok (.getfield 95, 3) := by decide +kernel
theorem dX6_read_63 : decode cX6_read 63 = .ok (.ifCond .ne 10, 3) := by decide +kernel
end
section
theorem dX6_read_66 : decode cX6_read 66 = .ok (.iconst (-1), 1) := by decide +kernel
theorem dX6_read_67 : decode cX6_read 67 = .ok (.aload_n 0, 1) := by decide +kernel
theorem dX6_read_68 : decode cX6_read 68 = .ok (.getfield 92, 3) := by decide +kernel
theorem dX6_read_71 : decode cX6_read 71 = .ok (.isub, 1) := by decide +kernel
theorem dX6_read_72 : decode cX6_read 72 = .ok (.ireturn, 1) := by decide +kernel
theorem dX6_read_73 : decode cX6_read 73 = .ok (.aload_n 0, 1) := by decide +kernel
theorem dX6_read_74 : decode cX6_read 74 = .ok (.invokevirtual 190, 3) := by decide +kernel
theorem dX6_read_77 : decode cX6_read 77 = .ok (.istore_n 1, 1) := by decide +kernel
theorem dX6_read_78 : decode cX6_read 78 = .ok (.iload_n 1, 1) := by decide +kernel
theorem dX6_read_79 : decode cX6_read 79 = .ok (.iconst (-1), 1) := by decide +kernel
theorem dX6_read_80 : decode cX6_read 80 = .ok (.if_icmp .ne 12, 3) := by decide +kernel
theorem dX6_read_83 : decode cX6_read 83 = .ok (.aload_n 0, 1) := by decide +kernel
theorem dX6_read_84 : decode cX6_read 84 = .ok (.invokevirtual 193, 3) := by decide +kernel
theorem dX6_read_87 : decode cX6_read 87 = .ok (.aload_n 0, 1) := by decide +kernel
theorem dX6_read_88 : decode cX6_read 88 = .ok (.invokevirtual 196, 3) := by decide +kernel
theorem dX6_read_91 : decode cX6_read 91 = .ok (.istore_n 1, 1) := by decide +kernel
theorem dX6_read_92 : decode cX6_read 92 = .ok (.iload_n 1, 1) := by decide +kernel
theorem dX6_read_93 : decode cX6_read 93 = .ok (.iconst (-1), 1) := by decide +kernel
theorem dX6_read_94 : decode cX6_read 94 = .ok (.if_icmp .ne 10, 3) := by decide +kernel
theorem dX6_read_97 : decode cX6_read 97 = .ok (.aload_n 0, 1) := by decide +kernel
theorem dX6_read_98 : decode cX6_read 98 = .ok (.invokevirtual 199, 3) := by decide +kernel
theorem dX6_read_101 : decode cX6_read 101 = .ok (.goto 4, 3) := by decide +kernel
theorem dX6_read_104 : decode cX6_read 104 = .ok (.iload_n 1, 1) := by decide +kernel
theorem dX6_read_105 : decode cX6_read 105 = .ok (.istore_n 1, 1) := by decide +kernel
theorem dX6_read_106 : decode cX6_read 106 = .ok (.iload_n 1, 1) := by decide +kernel
theorem dX6_read_107 : decode cX6_read 107 = .ok (.iconst (-1), 1) := by decide +kernel
theorem dX6_read_108 : decode cX6_read 108 = .ok (.if_icmp .eq 7, 3) := by decide +kernel
theorem dX6_read_111 : decode cX6_read 111 = .ok (.iconst (-1), 1) := by decide +kernel
theorem dX6_read_112 : decode cX6_read 112 = .ok (.iload_n 1, 1) := by decide +kernel
theorem dX6_read_113 : decode cX6_read 113 = .ok (.isub, 1) := by decide +kernel
theorem dX6_read_114 : decode cX6_read 114 = .ok (.ireturn, 1) := by decide +kernel
theorem dX6_read_115 : decode cX6_read 115 = .ok (.aload_n 0, 1) := by decide +kernel
theorem dX6_read_116 : decode cX6_read 116 = .ok (.invokevirtual 202, 3) := by decide +kernel
theorem dX6_read_119 : decode cX6_read 119 = .ok (.aload_n 0, 1) := by decide +kernel
theorem dX6_read_120 : decode cX6_read 120 = .ok (.getfield 205, 3) := by decide +kernel
theorem dX6_read_123 : decode cX6_read 123 = .ok (.ireturn, 1) := by decide +kernel
theorem dX6_adopt_0 : decode cX6_adopt 0 = .ok (.aload_n 0, 1) := by decide +kernel
theorem dX6_adopt_1 : decode cX6_adopt 1 = .ok (.aload_n 0, 1) := by decide +kernel
theorem dX6_adopt_2 : decode cX6_adopt 2 = .ok (.getfield 133, 3) := by decide +kernel
theorem dX6_adopt_5 : decode cX6_adopt 5 = .ok (.putfield 205, 3) := by decide +kernel
theorem dX6_adopt_8 : decode cX6_adopt 8 = .ok (.aload_n 0, 1) := by decide +kernel
theorem dX6_adopt_9 : decode cX6_adopt 9 = .ok (.aload_n 0, 1) := by decide +kernel
theorem dX6_adopt_10 : decode cX6_adopt 10 = .ok (.getfield 126, 3) := by decide +kernel
theorem dX6_adopt_13 : decode cX6_adopt 13 = .ok (.putfield 208, 3) := by decide +kernel
theorem dX6_adopt_16 : decode cX6_adopt 16 = .ok (.iconst 0, 1) := by decide +kernel
theorem dX6_adopt_17 : decode cX6_adopt 17 = .ok (.istore_n 1, 1) := by decide +kernel
theorem dX6_adopt_18 : decode cX6_adopt 18 = .ok (.iload_n 1, 1) := by decide +kernel
theorem dX6_adopt_19 : decode cX6_adopt 19 = .ok (.aload_n 0, 1) := by decide +kernel
theorem dX6_adopt_20 : decode cX6_adopt 20 = .ok (.getfield 205, 3) := by decide +kernel
theorem dX6_adopt_23 : decode cX6_adopt 23 = .ok (.if_icmp .ge 171, 3) := by decide +kernel
theorem dX6_adopt_26 : decode cX6_adopt 26 = .ok (.aload_n 0, 1) := by decide +kernel
theorem dX6_adopt_27 : decode cX6_adopt 27 = .ok (.getfield 19, 3) := by decide +kernel
theorem dX6_adopt_30 : decode cX6_adopt 30 = .ok (.iload_n 1, 1) := by decide +kernel
theorem dX6_adopt_31 : decode cX6_adopt 31 = .ok (.aload_n 0, 1) := by decide +kernel
theorem dX6_adopt_32 : decode cX6_adopt 32 = .ok (.getfield 19, 3) := by decide +kernel
theorem dX6_adopt_35 : decode cX6_adopt 35 = .ok (.bipush 40, 2) := by decide +kernel
theorem dX6_adopt_37 : decode cX6_adopt 37 = .ok (.iload_n 1, 1) := by decide +kernel
theorem dX6_adopt_38 : decode cX6_adopt 38 = .ok (.iadd, 1) := by decide +kernel
theorem dX6_adopt_39 : decode cX6_adopt 39 = .ok (.iaload, 1) := by decide +kernel
theorem dX6_adopt_40 : decode cX6_adopt 40 = .ok (.iastore, 1) := by decide +kernel
theorem dX6_adopt_41 : decode cX6_adopt 41 = .ok (.aload_n 0, 1) := by decide +kernel
theorem dX6_adopt_42 : decode cX6_adopt 42 = .ok (.getfield 22, 3) := by decide +kernel
theorem dX6_adopt_45 : decode cX6_adopt 45 = .ok (.iload_n 1, 1) := by decide +kernel
theorem dX6_adopt_46 : decode cX6_adopt 46 = .ok (.aload_n 0, 1) := by decide +kernel
theorem dX6_adopt_47 : decode cX6_adopt 47 = .ok (.getfield 22, 3) := by decide +kernel
theorem dX6_adopt_50 : decode cX6_adopt 50 = .ok (.bipush 40, 2) := by decide +kernel
theorem dX6_adopt_52 : decode cX6_adopt 52 = .ok (.iload_n 1, 1) := by decide +kernel
theorem dX6_adopt_53 : decode cX6_adopt 53 = .ok (.iadd, 1) := by decide +kernel
theorem dX6_adopt_54 : decode cX6_adopt 54 = .ok (.laload, 1) := by decide +kernel
theorem dX6_adopt_55 : decode cX6_adopt 55 = .ok (.lastore, 1) := by decide +kernel
theorem dX6_adopt_56 : decode cX6_adopt 56 = .ok (.aload_n 0, 1) := by decide +kernel
theorem dX6_adopt_57 : decode cX6_adopt 57 = .ok (.getfield 26, 3) := by decide +kernel
theorem dX6_adopt_60 : decode cX6_adopt 60 = .ok (.iload_n 1, 1) := by decide +kernel
theorem dX6_adopt_61 : decode cX6_adopt 61 = .ok (.aload_n 0, 1) := by decide +kernel
theorem dX6_adopt_62 : decode cX6_adopt 62 = .ok (.getfield 26, 3) := by decide +kernel
theorem dX6_adopt_65 : decode cX6_adopt 65 = .ok (.bipush 40, 2) := by decide +kernel
theorem dX6_adopt_67 : decode cX6_adopt 67 = .ok (.iload_n 1, 1) := by decide +kernel
theorem dX6_adopt_68 : decode cX6_adopt 68 = .ok (.iadd, 1) := by decide +kernel
theorem dX6_adopt_69 : decode cX6_adopt 69 = .ok (.laload, 1) := by decide +kernel
theorem dX6_adopt_70 : decode cX6_adopt 70 = .ok (.lastore, 1) := by decide +kernel
theorem dX6_adopt_71 : decode cX6_adopt 71 = .ok (.aload_n 0, 1) := by decide +kernel
theorem dX6_adopt_72 : decode cX6_adopt 72 = .ok (.getfield 29, 3) := by decide +kernel
theorem dX6_adopt_75 : decode cX6_adopt 75 = .ok (.iload_n 1, 1) := by decide +kernel
theorem dX6_adopt_76 : decode cX6_adopt 76 = .ok (.aload_n 0, 1) := by decide +kernel
theorem dX6_adopt_77 : decode cX6_adopt 77 = .ok (.getfield 29, 3) := by decide +kernel
theorem dX6_adopt_80 : decode cX6_adopt 80 = .ok (.bipush 40, 2) := by decide +kernel
theorem dX6_adopt_82 : decode cX6_adopt 82 = .ok (.iload_n 1, 1) := by decide +kernel
theorem dX6_adopt_83 : decode cX6_adopt 83 = .ok (.iadd, 1) := by decide +kernel
theorem dX6_adopt_84 : decode cX6_adopt 84 = .ok (.iaload, 1) := by decide +kernel
theorem dX6_adopt_85 : decode cX6_adopt 85 = .ok (.iastore, 1) := by decide +kernel
theorem dX6_adopt_86 : decode cX6_adopt 86 = .ok (.aload_n 0, 1) := by decide +kernel
theorem dX6_adopt_87 : decode cX6_adopt 87 = .ok (.getfield 32, 3) := by decide +kernel
theorem dX6_adopt_90 : decode cX6_adopt 90 = .ok (.iload_n 1, 1) := by decide +kernel
theorem dX6_adopt_91 : decode cX6_adopt 91 = .ok (.aload_n 0, 1) := by decide +kernel
theorem dX6_adopt_92 : decode cX6_adopt 92 = .ok (.getfield 32, 3) := by decide +kernel
theorem dX6_adopt_95 : decode cX6_adopt 95 = .ok (.bipush 40, 2) := by decide +kernel
theorem dX6_adopt_97 : decode cX6_adopt 97 = .ok (.iload_n 1, 1) := by decide +kernel
theorem dX6_adopt_98 : decode cX6_adopt 98 = .ok (.iadd, 1) := by decide +kernel
theorem dX6_adopt_99 : decode cX6_adopt 99 = .ok (.iaload, 1) := by decide +kernel
theorem dX6_adopt_100 : decode cX6_adopt 100 = .ok (.iastore, 1) := by decide +kernel
theorem dX6_adopt_101 : decode cX6_adopt 101 = .ok (.aload_n 0, 1) := by decide +kernel
theorem dX6_adopt_102 : decode cX6_adopt 102 = .ok (.getfield 35, 3) := by decide +kernel
theorem dX6_adopt_105 : decode cX6_adopt 105 = .ok (.iload_n 1, 1) := by decide +kernel
theorem dX6_adopt_106 : decode cX6_adopt 106 = .ok (.aload_n 0, 1) := by decide +kernel
theorem dX6_adopt_107 : decode cX6_adopt 107 = .ok (.getfield 35, 3) := by decide +kernel
theorem dX6_adopt_110 : decode cX6_adopt 110 = .ok (.bipush 40, 2) := by decide +kernel
theorem dX6_adopt_112 : decode cX6_adopt 112 = .ok (.iload_n 1, 1) := by decide +kernel
theorem dX6_adopt_113 : decode cX6_adopt 113 = .ok (.iadd, 1) := by decide +kernel
theorem dX6_adopt_114 : decode cX6_adopt 114 = .ok (.iaload, 1) := by decide +kernel
theorem dX6_adopt_115 : decode cX6_adopt 115 = .ok (.iastore, 1) := by decide +kernel
theorem dX6_adopt_116 : decode cX6_adopt 116 = .ok (.iconst 3, 1) := by decide +kernel
theorem dX6_adopt_117 : decode cX6_adopt 117 = .ok (.iload_n 1, 1) := by decide +kernel
theorem dX6_adopt_118 : decode cX6_adopt 118 = .ok (.imul, 1) := by decide +kernel
theorem dX6_adopt_119 : decode cX6_adopt 119 = .ok (.istore_n 2, 1) := by decide +kernel
theorem dX6_adopt_120 : decode cX6_adopt 120 = .ok (.iload_n 2, 1) := by decide +kernel
theorem dX6_adopt_121 : decode cX6_adopt 121 = .ok (.iconst 3, 1) := by decide +kernel
theorem dX6_adopt_122 : decode cX6_adopt 122 = .ok (.iload_n 1, 1) := by decide +kernel
theorem dX6_adopt_123 : decode cX6_adopt 123 = .ok (.imul, 1) := by decide +kernel
theorem dX6_adopt_124 : decode cX6_adopt 124 = .ok (.iconst 3, 1) := by decide +kernel
theorem dX6_adopt_125 : decode cX6_adopt 125 = .ok (.iadd, 1) := by decide +kernel
theorem dX6_adopt_126 : decode cX6_adopt 126 = .ok (.if_icmp .ge 62, 3) := by decide +kernel
theorem dX6_adopt_129 : decode cX6_adopt 129 = .ok (.aload_n 0, 1) := by decide +kernel
theorem dX6_adopt_130 : decode cX6_adopt 130 = .ok (.getfield 41, 3) := by decide +kernel
theorem dX6_adopt_133 : decode cX6_adopt 133 = .ok (.iload_n 2, 1) := by decide +kernel
theorem dX6_adopt_134 : decode cX6_adopt 134 = .ok (.aload_n 0, 1) := by decide +kernel
theorem dX6_adopt_135 : decode cX6_adopt 135 = .ok (.getfield 41, 3) := by decide +kernel
theorem dX6_adopt_138 : decode cX6_adopt 138 = .ok (.bipush 120, 2) := by decide +kernel
theorem dX6_adopt_140 : decode cX6_adopt 140 = .ok (.iload_n 2, 1) := by decide +kernel
theorem dX6_adopt_141 : decode cX6_adopt 141 = .ok (.iadd, 1) := by decide +kernel
theorem dX6_adopt_142 : decode cX6_adopt 142 = .ok (.iaload, 1) := by decide +kernel
theorem dX6_adopt_143 : decode cX6_adopt 143 = .ok (.iastore, 1) := by decide +kernel
theorem dX6_adopt_144 : decode cX6_adopt 144 = .ok (.bipush 16, 2) := by decide +kernel
theorem dX6_adopt_146 : decode cX6_adopt 146 = .ok (.iload_n 2, 1) := by decide +kernel
theorem dX6_adopt_147 : decode cX6_adopt 147 = .ok (.imul, 1) := by decide +kernel
theorem dX6_adopt_148 : decode cX6_adopt 148 = .ok (.istore_n 3, 1) := by decide +kernel
theorem dX6_adopt_149 : decode cX6_adopt 149 = .ok (.iload_n 3, 1) := by decide +kernel
theorem dX6_adopt_150 : decode cX6_adopt 150 = .ok (.bipush 16, 2) := by decide +kernel
theorem dX6_adopt_152 : decode cX6_adopt 152 = .ok (.iload_n 2, 1) := by decide +kernel
theorem dX6_adopt_153 : decode cX6_adopt 153 = .ok (.imul, 1) := by decide +kernel
theorem dX6_adopt_154 : decode cX6_adopt 154 = .ok (.bipush 16, 2) := by decide +kernel
theorem dX6_adopt_156 : decode cX6_adopt 156 = .ok (.iadd, 1) := by decide +kernel
theorem dX6_adopt_157 : decode cX6_adopt 157 = .ok (.if_icmp .ge 25, 3) := by decide +kernel
theorem dX6_adopt_160 : decode cX6_adopt 160 = .ok (.aload_n 0, 1) := by decide +kernel
theorem dX6_adopt_161 : decode cX6_adopt 161 = .ok (.getfield 38, 3) := by decide +kernel
theorem dX6_adopt_164 : decode cX6_adopt 164 = .ok (.iload_n 3, 1) := by decide +kernel
theorem dX6_adopt_165 : decode cX6_adopt 165 = .ok (.aload_n 0, 1) := by decide +kernel
theorem dX6_adopt_166 : decode cX6_adopt 166 = .ok (.getfield 38, 3) := by decide +kernel
theorem dX6_adopt_169 : decode cX6_adopt 169 = .ok (.sipush 1920, 3) := by decide +kernel
theorem dX6_adopt_172 : decode cX6_adopt 172 = .ok (.iload_n 3, 1) := by decide +kernel
theorem dX6_adopt_173 : decode cX6_adopt 173 = .ok (.iadd, 1) := by decide +kernel
theorem dX6_adopt_174 : decode cX6_adopt 174 = .ok (.iaload, 1) := by decide +kernel
theorem dX6_adopt_175 : decode cX6_adopt 175 = .ok (.iastore, 1) := by decide +kernel
theorem dX6_adopt_176 : decode cX6_adopt 176 = .ok (.iinc 3 1, 3) := by decide +kernel
theorem dX6_adopt_179 : decode cX6_adopt 179 = .ok (.goto (-30), 3) := by decide +kernel
theorem dX6_adopt_182 : decode cX6_adopt 182 = .ok (.iinc 2 1, 3) := by decide +kernel
theorem dX6_adopt_185 : decode cX6_adopt 185 = .ok (.goto (-65), 3) := by decide +kernel
theorem dX6_adopt_188 : decode cX6_adopt 188 = .ok (.iinc 1 1, 3) := by decide +kernel
theorem dX6_adopt_191 : decode cX6_adopt 191 = .ok (.goto (-173), 3) := by decide +kernel
theorem dX6_adopt_194 : decode cX6_adopt 194 = .ok (.iconst 0, 1) := by decide +kernel
theorem dX6_adopt_195 : decode cX6_adopt 195 = .ok (.istore_n 1, 1) := by decide +kernel
theorem dX6_adopt_196 : decode cX6_adopt 196 = .ok (.iload_n 1, 1) := by decide +kernel
theorem dX6_adopt_197 : decode cX6_adopt 197 = .ok (.aload_n 0, 1) := by decide +kernel
theorem dX6_adopt_198 : decode cX6_adopt 198 = .ok (.getfield 208, 3) := by decide +kernel
theorem dX6_adopt_201 : decode cX6_adopt 201 = .ok (.if_icmp .ge 99, 3) := by decide +kernel
theorem dX6_adopt_204 : decode cX6_adopt 204 = .ok (.aload_n 0, 1) := by decide +kernel
theorem dX6_adopt_205 : decode cX6_adopt 205 = .ok (.getfield 44, 3) := by decide +kernel
theorem dX6_adopt_208 : decode cX6_adopt 208 = .ok (.iload_n 1, 1) := by decide +kernel
theorem dX6_adopt_209 : decode cX6_adopt 209 = .ok (.aload_n 0, 1) := by decide +kernel
theorem dX6_adopt_210 : decode cX6_adopt 210 = .ok (.getfield 44, 3) := by decide +kernel
theorem dX6_adopt_213 : decode cX6_adopt 213 = .ok (.bipush 12, 2) := by decide +kernel
theorem dX6_adopt_215 : decode cX6_adopt 215 = .ok (.iload_n 1, 1) := by decide +kernel
theorem dX6_adopt_216 : decode cX6_adopt 216 = .ok (.iadd, 1) := by decide +kernel
theorem dX6_adopt_217 : decode cX6_adopt 217 = .ok (.iaload, 1) := by decide +kernel
theorem dX6_adopt_218 : decode cX6_adopt 218 = .ok (.iastore, 1) := by decide +kernel
theorem dX6_adopt_219 : decode cX6_adopt 219 = .ok (.aload_n 0, 1) := by decide +kernel
theorem dX6_adopt_220 : decode cX6_adopt 220 = .ok (.getfield 47, 3) := by decide +kernel
theorem dX6_adopt_223 : decode cX6_adopt 223 = .ok (.iload_n 1, 1) := by decide +kernel
theorem dX6_adopt_224 : decode cX6_adopt 224 = .ok (.aload_n 0, 1) := by decide +kernel
theorem dX6_adopt_225 : decode cX6_adopt 225 = .ok (.getfield 47, 3) := by decide +kernel
theorem dX6_adopt_228 : decode cX6_adopt 228 = .ok (.bipush 12, 2) := by decide +kernel
theorem dX6_adopt_230 : decode cX6_adopt 230 = .ok (.iload_n 1, 1) := by decide +kernel
theorem dX6_adopt_231 : decode cX6_adopt 231 = .ok (.iadd, 1) := by decide +kernel
theorem dX6_adopt_232 : decode cX6_adopt 232 = .ok (.iaload, 1) := by decide +kernel
theorem dX6_adopt_233 : decode cX6_adopt 233 = .ok (.iastore, 1) := by decide +kernel
theorem dX6_adopt_234 : decode cX6_adopt 234 = .ok (.aload_n 0, 1) := by decide +kernel
theorem dX6_adopt_235 : decode cX6_adopt 235 = .ok (.getfield 50, 3) := by decide +kernel
theorem dX6_adopt_238 : decode cX6_adopt 238 = .ok (.iload_n 1, 1) := by decide +kernel
theorem dX6_adopt_239 : decode cX6_adopt 239 = .ok (.aload_n 0, 1) := by decide +kernel
theorem dX6_adopt_240 : decode cX6_adopt 240 = .ok (.getfield 50, 3) := by decide +kernel
theorem dX6_adopt_243 : decode cX6_adopt 243 = .ok (.bipush 12, 2) := by decide +kernel
theorem dX6_adopt_245 : decode cX6_adopt 245 = .ok (.iload_n 1, 1) := by decide +kernel
theorem dX6_adopt_246 : decode cX6_adopt 246 = .ok (.iadd, 1) := by decide +kernel
theorem dX6_adopt_247 : decode cX6_adopt 247 = .ok (.laload, 1) := by decide +kernel
theorem dX6_adopt_248 : decode cX6_adopt 248 = .ok (.lastore, 1) := by decide +kernel
theorem dX6_adopt_249 : decode cX6_adopt 249 = .ok (.aload_n 0, 1) := by decide +kernel
theorem dX6_adopt_250 : decode cX6_adopt 250 = .ok (.getfield 53, 3) := by decide +kernel
theorem dX6_adopt_253 : decode cX6_adopt 253 = .ok (.iload_n 1, 1) := by decide +kernel
theorem dX6_adopt_254 : decode cX6_adopt 254 = .ok (.aload_n 0, 1) := by decide +kernel
theorem dX6_adopt_255 : decode cX6_adopt 255 = .ok (.getfield 53, 3) := by decide +kernel
theorem dX6_adopt_258 : decode cX6_adopt 258 = .ok (.bipush 12, 2) := by decide +kernel
theorem dX6_adopt_260 : decode cX6_adopt 260 = .ok (.iload_n 1, 1) := by decide +kernel
theorem dX6_adopt_261 : decode cX6_adopt 261 = .ok (.iadd, 1) := by decide +kernel
theorem dX6_adopt_262 : decode cX6_adopt 262 = .ok (.laload, 1) := by decide +kernel
theorem dX6_adopt_263 : decode cX6_adopt 263 = .ok (.lastore, 1) := by decide +kernel
theorem dX6_adopt_264 : decode cX6_adopt 264 = .ok (.aload_n 0, 1) := by decide +kernel
theorem dX6_adopt_265 : decode cX6_adopt 265 = .ok (.getfield 56, 3) := by decide +kernel
theorem dX6_adopt_268 : decode cX6_adopt 268 = .ok (.iload_n 1, 1) := by decide +kernel
theorem dX6_adopt_269 : decode cX6_adopt 269 = .ok (.aload_n 0, 1) := by decide +kernel
theorem dX6_adopt_270 : decode cX6_adopt 270 = .ok (.getfield 56, 3) := by decide +kernel
theorem dX6_adopt_273 : decode cX6_adopt 273 = .ok (.bipush 12, 2) := by decide +kernel
theorem dX6_adopt_275 : decode cX6_adopt 275 = .ok (.iload_n 1, 1) := by decide +kernel
theorem dX6_adopt_276 : decode cX6_adopt 276 = .ok (.iadd, 1) := by decide +kernel
theorem dX6_adopt_277 : decode cX6_adopt 277 = .ok (.laload, 1) := by decide +kernel
theorem dX6_adopt_278 : decode cX6_adopt 278 = .ok (.lastore, 1) := by decide +kernel
theorem dX6_adopt_279 : decode cX6_adopt 279 = .ok (.aload_n 0, 1) := by decide +kernel
theorem dX6_adopt_280 : decode cX6_adopt 280 = .ok (.getfield 59, 3) := by decide +kernel
theorem dX6_adopt_283 : decode cX6_adopt 283 = .ok (.iload_n 1, 1) := by decide +kernel
theorem dX6_adopt_284 : decode cX6_adopt 284 = .ok (.aload_n 0, 1) := by decide +kernel
theorem dX6_adopt_285 : decode cX6_adopt 285 = .ok (.getfield 59, 3) := by decide +kernel
theorem dX6_adopt_288 : decode cX6_adopt 288 = .ok (.bipush 12, 2) := by decide +kernel
theorem dX6_adopt_290 : decode cX6_adopt 290 = .ok (.iload_n 1, 1) := by decide +kernel
theorem dX6_adopt_291 : decode cX6_adopt 291 = .ok (.iadd, 1) := by decide +kernel
theorem dX6_adopt_292 : decode cX6_adopt 292 = .ok (.laload, 1) := by decide +kernel
theorem dX6_adopt_293 : decode cX6_adopt 293 = .ok (.lastore, 1) := by decide +kernel
theorem dX6_adopt_294 : decode cX6_adopt 294 = .ok (.iinc 1 1, 3) := by decide +kernel
theorem dX6_adopt_297 : decode cX6_adopt 297 = .ok (.goto (-101), 3) := by decide +kernel
theorem dX6_adopt_300 : decode cX6_adopt 300 = .ok (.return_, 1) := by decide +kernel
theorem dX6_matches_0 : decode cX6_matches 0 = .ok (.iconst 3, 1) := by decide +kernel
theorem dX6_matches_1 : decode cX6_matches 1 = .ok (.iload_n 1, 1) := by decide +kernel
theorem dX6_matches_2 : decode cX6_matches 2 = .ok (.imul, 1) := by decide +kernel
theorem dX6_matches_3 : decode cX6_matches 3 = .ok (.iload_n 2, 1) := by decide +kernel
theorem dX6_matches_4 : decode cX6_matches 4 = .ok (.iadd, 1) := by decide +kernel
theorem dX6_matches_5 : decode cX6_matches 5 = .ok (.istore 4, 2) := by decide +kernel
theorem dX6_matches_7 : decode cX6_matches 7 = .ok (.aload_n 0, 1) := by decide +kernel
theorem dX6_matches_8 : decode cX6_matches 8 = .ok (.getfield 13, 3) := by decide +kernel
theorem dX6_matches_11 : decode cX6_matches 11 = .ok (.iload_n 3, 1) := by decide +kernel
theorem dX6_matches_12 : decode cX6_matches 12 = .ok (.iaload, 1) := by decide +kernel
theorem dX6_matches_13 : decode cX6_matches 13 = .ok (.istore 5, 2) := by decide +kernel
theorem dX6_matches_15 : decode cX6_matches 15 = .ok (.iload 5, 2) := by decide +kernel
theorem dX6_matches_17 : decode cX6_matches 17 = .ok (.ifCond .eq 13, 3) := by decide +kernel
theorem dX6_matches_20 : decode cX6_matches 20 = .ok (.aload_n 0, 1) := by decide +kernel
theorem dX6_matches_21 : decode cX6_matches 21 = .ok (.getfield 41, 3) := by decide +kernel
theorem dX6_matches_24 : decode cX6_matches 24 = .ok (.iload 4, 2) := by decide +kernel
theorem dX6_matches_26 : decode cX6_matches 26 = .ok (.iaload, 1) := by decide +kernel
theorem dX6_matches_27 : decode cX6_matches 27 = .ok (.ifCond .ne 5, 3) := by decide +kernel
theorem dX6_matches_30 : decode cX6_matches 30 = .ok (.iconst 0, 1) := by decide +kernel
theorem dX6_matches_31 : decode cX6_matches 31 = .ok (.ireturn, 1) := by decide +kernel
theorem dX6_matches_32 : decode cX6_matches 32 = .ok (.iconst 0, 1) := by decide +kernel
theorem dX6_matches_33 : decode cX6_matches 33 = .ok (.istore 6, 2) := by decide +kernel
theorem dX6_matches_35 : decode cX6_matches 35 = .ok (.iload 6, 2) := by decide +kernel
theorem dX6_matches_37 : decode cX6_matches 37 = .ok (.iload 5, 2) := by decide +kernel
theorem dX6_matches_39 : decode cX6_matches 39 = .ok (.if_icmp .gt 26, 3) := by decide +kernel
theorem dX6_matches_42 : decode cX6_matches 42 = .ok (.aload_n 0, 1) := by decide +kernel
theorem dX6_matches_43 : decode cX6_matches 43 = .ok (.getfield 72, 3) := by decide +kernel
theorem dX6_matches_46 : decode cX6_matches 46 = .ok (.iload 6, 2) := by decide +kernel
theorem dX6_matches_48 : decode cX6_matches 48 = .ok (.iload 6, 2) := by decide +kernel
theorem dX6_matches_50 : decode cX6_matches 50 = .ok (.ifCond .ne 7, 3) := by decide +kernel
theorem dX6_matches_53 : decode cX6_matches 53 = .ok (.iconst 1, 1) := by decide +kernel
theorem dX6_matches_54 : decode cX6_matches 54 = .ok (.goto 4, 3) := by decide +kernel
theorem dX6_matches_57 : decode cX6_matches 57 = .ok (.iconst 0, 1) := by decide +kernel
theorem dX6_matches_58 : decode cX6_matches 58 = .ok (.bastore, 1) := by decide +kernel
theorem dX6_matches_59 : decode cX6_matches 59 = .ok (.iinc 6 1, 3) := by decide +kernel
theorem dX6_matches_62 : decode cX6_matches 62 = .ok (.goto (-27), 3) := by decide +kernel
theorem dX6_matches_65 : decode cX6_matches 65 = .ok (.iconst 0, 1) := by decide +kernel
theorem dX6_matches_66 : decode cX6_matches 66 = .ok (.istore 6, 2) := by decide +kernel
theorem dX6_matches_68 : decode cX6_matches 68 = .ok (.iload 6, 2) := by decide +kernel
theorem dX6_matches_70 : decode cX6_matches 70 = .ok (.aload_n 0, 1) := by decide +kernel
theorem dX6_matches_71 : decode cX6_matches 71 = .ok (.getfield 41, 3) := by decide +kernel
theorem dX6_matches_74 : decode cX6_matches 74 = .ok (.iload 4, 2) := by decide +kernel
theorem dX6_matches_76 : decode cX6_matches 76 = .ok (.iaload, 1) := by decide +kernel
theorem dX6_matches_77 : decode cX6_matches 77 = .ok (.if_icmp .ge 156, 3) := by decide +kernel
theorem dX6_matches_80 : decode cX6_matches 80 = .ok (.aload_n 0, 1) := by decide +kernel
theorem dX6_matches_81 : decode cX6_matches 81 = .ok (.getfield 38, 3) := by decide +kernel
theorem dX6_matches_84 : decode cX6_matches 84 = .ok (.bipush 16, 2) := by decide +kernel
theorem dX6_matches_86 : decode cX6_matches 86 = .ok (.iload 4, 2) := by decide +kernel
theorem dX6_matches_88 : decode cX6_matches 88 = .ok (.imul, 1) := by decide +kernel
theorem dX6_matches_89 : decode cX6_matches 89 = .ok (.iload 6, 2) := by decide +kernel
theorem dX6_matches_91 : decode cX6_matches 91 = .ok (.iadd, 1) := by decide +kernel
theorem dX6_matches_92 : decode cX6_matches 92 = .ok (.iaload, 1) := by decide +kernel
theorem dX6_matches_93 : decode cX6_matches 93 = .ok (.istore 7, 2) := by decide +kernel
theorem dX6_matches_95 : decode cX6_matches 95 = .ok (.iload 7, 2) := by decide +kernel
theorem dX6_matches_97 : decode cX6_matches 97 = .ok (.bipush 42, 2) := by decide +kernel
theorem dX6_matches_99 : decode cX6_matches 99 = .ok (.if_icmp .ne 56, 3) := by decide +kernel
theorem dX6_matches_102 : decode cX6_matches 102 = .ok (.iconst 1, 1) := by decide +kernel
theorem dX6_matches_103 : decode cX6_matches 103 = .ok (.istore 8, 2) := by decide +kernel
theorem dX6_matches_105 : decode cX6_matches 105 = .ok (.iload 8, 2) := by decide +kernel
theorem dX6_matches_107 : decode cX6_matches 107 = .ok (.iload 5, 2) := by decide +kernel
theorem dX6_matches_109 : decode cX6_matches 109 = .ok (.if_icmp .gt 43, 3) := by decide +kernel
theorem dX6_matches_112 : decode cX6_matches 112 = .ok (.aload_n 0, 1) := by decide +kernel
theorem dX6_matches_113 : decode cX6_matches 113 = .ok (.getfield 72, 3) := by decide +kernel
theorem dX6_matches_116 : decode cX6_matches 116 = .ok (.iload 8, 2) := by decide +kernel
theorem dX6_matches_118 : decode cX6_matches 118 = .ok (.aload_n 0, 1) := by decide +kernel
theorem dX6_matches_119 : decode cX6_matches 119 = .ok (.getfield 72, 3) := by decide +kernel
theorem dX6_matches_122 : decode cX6_matches 122 = .ok (.iload 8, 2) := by decide +kernel
theorem dX6_matches_124 : decode cX6_matches 124 = .ok (.baload, 1) := by decide +kernel
theorem dX6_matches_125 : decode cX6_matches 125 = .ok (.ifCond .ne 15, 3) := by decide +kernel
theorem dX6_matches_128 : decode cX6_matches 128 = .ok (.aload_n 0, 1) := by decide +kernel
theorem dX6_matches_129 : decode cX6_matches 129 = .ok (.getfield 72, 3) := by decide +kernel
theorem dX6_matches_132 : decode cX6_matches 132 = .ok (.iload 8, 2) := by decide +kernel
theorem dX6_matches_134 : decode cX6_matches 134 = .ok (.iconst 1, 1) := by decide +kernel
theorem dX6_matches_135 : decode cX6_matches 135 = .ok (.isub, 1) := by decide +kernel
theorem dX6_matches_136 : decode cX6_matches 136 = .ok (.baload, 1) := by decide +kernel
theorem dX6_matches_137 : decode cX6_matches 137 = .ok (.ifCond .eq 7, 3) := by decide +kernel
theorem dX6_matches_140 : decode cX6_matches 140 = .ok (.iconst 1, 1) := by decide +kernel
theorem dX6_matches_141 : decode cX6_matches 141 = .ok (.goto 4, 3) := by decide +kernel
theorem dX6_matches_144 : decode cX6_matches 144 = .ok (.iconst 0, 1) := by decide +kernel
theorem dX6_matches_145 : decode cX6_matches 145 = .ok (.bastore, 1) := by decide +kernel
theorem dX6_matches_146 : decode cX6_matches 146 = .ok (.iinc 8 1, 3) := by decide +kernel
theorem dX6_matches_149 : decode cX6_matches 149 = .ok (.goto (-44), 3) := by decide +kernel
theorem dX6_matches_152 : decode cX6_matches 152 = .ok (.goto 75, 3) := by decide +kernel
theorem dX6_matches_155 : decode cX6_matches 155 = .ok (.iload 5, 2) := by decide +kernel
theorem dX6_matches_157 : decode cX6_matches 157 = .ok (.istore 8, 2) := by decide +kernel
theorem dX6_matches_159 : decode cX6_matches 159 = .ok (.iload 8, 2) := by decide +kernel
theorem dX6_matches_161 : decode cX6_matches 161 = .ok (.ifCond .le 59, 3) := by decide +kernel
theorem dX6_matches_164 : decode cX6_matches 164 = .ok (.aload_n 0, 1) := by decide +kernel
theorem dX6_matches_165 : decode cX6_matches 165 = .ok (.getfield 72, 3) := by decide +kernel
theorem dX6_matches_168 : decode cX6_matches 168 = .ok (.iload 8, 2) := by decide +kernel
theorem dX6_matches_170 : decode cX6_matches 170 = .ok (.aload_n 0, 1) := by decide +kernel
theorem dX6_matches_171 : decode cX6_matches 171 = .ok (.getfield 72, 3) := by decide +kernel
theorem dX6_matches_174 : decode cX6_matches 174 = .ok (.iload 8, 2) := by decide +kernel
theorem dX6_matches_176 : decode cX6_matches 176 = .ok (.iconst 1, 1) := by decide +kernel
theorem dX6_matches_177 : decode cX6_matches 177 = .ok (.isub, 1) := by decide +kernel
theorem dX6_matches_178 : decode cX6_matches 178 = .ok (.baload, 1) := by decide +kernel
theorem dX6_matches_179 : decode cX6_matches 179 = .ok (.ifCond .eq 33, 3) := by decide +kernel
theorem dX6_matches_182 : decode cX6_matches 182 = .ok (.iload 7, 2) := by decide +kernel
theorem dX6_matches_184 : decode cX6_matches 184 = .ok (.bipush 63, 2) := by decide +kernel
theorem dX6_matches_186 : decode cX6_matches 186 = .ok (.if_icmp .eq 22, 3) := by decide +kernel
theorem dX6_matches_189 : decode cX6_matches 189 = .ok (.iload 7, 2) := by decide +kernel
theorem dX6_matches_191 : decode cX6_matches 191 = .ok (.aload_n 0, 1) := by decide +kernel
theorem dX6_matches_192 : decode cX6_matches 192 = .ok (.getfield 7, 3) := by decide +kernel
theorem dX6_matches_195 : decode cX6_matches 195 = .ok (.bipush 16, 2) := by decide +kernel
theorem dX6_matches_197 : decode cX6_matches 197 = .ok (.iload_n 3, 1) := by decide +kernel
theorem dX6_matches_198 : decode cX6_matches 198 = .ok (.imul, 1) := by decide +kernel
theorem dX6_matches_199 : decode cX6_matches 199 = .ok (.iload 8, 2) := by decide +kernel
theorem dX6_matches_201 : decode cX6_matches 201 = .ok (.iadd, 1) := by decide +kernel
theorem dX6_matches_202 : decode cX6_matches 202 = .ok (.iconst 1, 1) := by decide +kernel
theorem dX6_matches_203 : decode cX6_matches 203 = .ok (.isub, 1) := by decide +kernel
theorem dX6_matches_204 : decode cX6_matches 204 = .ok (.iaload, 1) := by decide +kernel
theorem dX6_matches_205 : decode cX6_matches 205 = .ok (.if_icmp .ne 7, 3) := by decide +kernel
theorem dX6_matches_208 : decode cX6_matches 208 = .ok (.iconst 1, 1) := by decide +kernel
theorem dX6_matches_209 : decode cX6_matches 209 = .ok (.goto 4, 3) := by decide +kernel
theorem dX6_matches_212 : decode cX6_matches 212 = .ok (.iconst 0, 1) := by decide +kernel
theorem dX6_matches_213 : decode cX6_matches 213 = .ok (.bastore, 1) := by decide +kernel
theorem dX6_matches_214 : decode cX6_matches 214 = .ok (.iinc 8 (-1), 3) := by decide +kernel
theorem dX6_matches_217 : decode cX6_matches 217 = .ok (.goto (-58), 3) := by decide +kernel
theorem dX6_matches_220 : decode cX6_matches 220 = .ok (.aload_n 0, 1) := by decide +kernel
theorem dX6_matches_221 : decode cX6_matches 221 = .ok (.getfield 72, 3) := by decide +kernel
theorem dX6_matches_224 : decode cX6_matches 224 = .ok (.iconst 0, 1) := by decide +kernel
theorem dX6_matches_225 : decode cX6_matches 225 = .ok (.iconst 0, 1) := by decide +kernel
theorem dX6_matches_226 : decode cX6_matches 226 = .ok (.bastore, 1) := by decide +kernel
theorem dX6_matches_227 : decode cX6_matches 227 = .ok (.iinc 6 1, 3) := by decide +kernel
theorem dX6_matches_230 : decode cX6_matches 230 = .ok (.goto (-162), 3) := by decide +kernel
theorem dX6_matches_233 : decode cX6_matches 233 = .ok (.aload_n 0, 1) := by decide +kernel
theorem dX6_matches_234 : decode cX6_matches 234 = .ok (.getfield 72, 3) := by decide +kernel
theorem dX6_matches_237 : decode cX6_matches 237 = .ok (.iload 5, 2) := by decide +kernel
theorem dX6_matches_239 : decode cX6_matches 239 = .ok (.baload, 1) := by decide +kernel
theorem dX6_matches_240 : decode cX6_matches 240 = .ok (.ireturn, 1) := by decide +kernel
theorem dX6_matched_0 : decode cX6_matched 0 = .ok (.iconst 0, 1) := by decide +kernel
theorem dX6_matched_1 : decode cX6_matched 1 = .ok (.istore_n 3, 1) := by decide +kernel
theorem dX6_matched_2 : decode cX6_matched 2 = .ok (.iconst 0, 1) := by decide +kernel
theorem dX6_matched_3 : decode cX6_matched 3 = .ok (.istore 4, 2) := by decide +kernel
theorem dX6_matched_5 : decode cX6_matched 5 = .ok (.iload 4, 2) := by decide +kernel
theorem dX6_matched_7 : decode cX6_matched 7 = .ok (.bipush 40, 2) := by decide +kernel
theorem dX6_matched_9 : decode cX6_matched 9 = .ok (.if_icmp .ge 28, 3) := by decide +kernel
theorem dX6_matched_12 : decode cX6_matched 12 = .ok (.iload_n 3, 1) := by decide +kernel
theorem dX6_matched_13 : decode cX6_matched 13 = .ok (.aload_n 0, 1) := by decide +kernel
theorem dX6_matched_14 : decode cX6_matched 14 = .ok (.iload_n 1, 1) := by decide +kernel
theorem dX6_matched_15 : decode cX6_matched 15 = .ok (.iload_n 2, 1) := by decide +kernel
theorem dX6_matched_16 : decode cX6_matched 16 = .ok (.iload 4, 2) := by decide +kernel
theorem dX6_matched_18 : decode cX6_matched 18 = .ok (.invokevirtual 211, 3) := by decide +kernel
theorem dX6_matched_21 : decode cX6_matched 21 = .ok (.ifCond .eq 7, 3) := by decide +kernel
theorem dX6_matched_24 : decode cX6_matched 24 = .ok (.iconst 1, 1) := by decide +kernel
theorem dX6_matched_25 : decode cX6_matched 25 = .ok (.goto 4, 3) := by decide +kernel
theorem dX6_matched_28 : decode cX6_matched 28 = .ok (.iconst 0, 1) := by decide +kernel
theorem dX6_matched_29 : decode cX6_matched 29 = .ok (.iadd, 1) := by decide +kernel
theorem dX6_matched_30 : decode cX6_matched 30 = .ok (.istore_n 3, 1) := by decide +kernel
theorem dX6_matched_31 : decode cX6_matched 31 = .ok (.iinc 4 1, 3) := by decide +kernel
theorem dX6_matched_34 : decode cX6_matched 34 = .ok (.goto (-29), 3) := by decide +kernel
theorem dX6_matched_37 : decode cX6_matched 37 = .ok (.iload_n 3, 1) := by decide +kernel
theorem dX6_matched_38 : decode cX6_matched 38 = .ok (.ireturn, 1) := by decide +kernel
theorem dX6_isClock_0 : decode cX6_isClock 0 = .ok (.iload_n 1, 1) := by decide +kernel
theorem dX6_isClock_1 : decode cX6_isClock 1 = .ok (.ifCond .lt 15, 3) := by decide +kernel
theorem dX6_isClock_4 : decode cX6_isClock 4 = .ok (.iload_n 1, 1) := by decide +kernel
theorem dX6_isClock_5 : decode cX6_isClock 5 = .ok (.aload_n 0, 1) := by decide +kernel
theorem dX6_isClock_6 : decode cX6_isClock 6 = .ok (.getfield 208, 3) := by decide +kernel
theorem dX6_isClock_9 : decode cX6_isClock 9 = .ok (.if_icmp .ge 7, 3) := by decide +kernel
theorem dX6_isClock_12 : decode cX6_isClock 12 = .ok (.iconst 1, 1) := by decide +kernel
theorem dX6_isClock_13 : decode cX6_isClock 13 = .ok (.goto 4, 3) := by decide +kernel
theorem dX6_isClock_16 : decode cX6_isClock 16 = .ok (.iconst 0, 1) := by decide +kernel
theorem dX6_isClock_17 : decode cX6_isClock 17 = .ok (.ireturn, 1) := by decide +kernel
theorem dX6_clock_0 : decode cX6_clock 0 = .ok (.aload_n 0, 1) := by decide +kernel
theorem dX6_clock_1 : decode cX6_clock 1 = .ok (.aload_n 0, 1) := by decide +kernel
theorem dX6_clock_2 : decode cX6_clock 2 = .ok (.iload_n 1, 1) := by decide +kernel
theorem dX6_clock_3 : decode cX6_clock 3 = .ok (.invokevirtual 215, 3) := by decide +kernel
theorem dX6_clock_6 : decode cX6_clock 6 = .ok (.ifCond .eq 13, 3) := by decide +kernel
theorem dX6_clock_9 : decode cX6_clock 9 = .ok (.iload_n 2, 1) := by decide +kernel
theorem dX6_clock_10 : decode cX6_clock 10 = .ok (.ifCond .lt 9, 3) := by decide +kernel
theorem dX6_clock_13 : decode cX6_clock 13 = .ok (.iload_n 2, 1) := by decide +kernel
theorem dX6_clock_14 : decode cX6_clock 14 = .ok (.bipush 6, 2) := by decide +kernel
theorem dX6_clock_16 : decode cX6_clock 16 = .ok (.if_icmp .le 7, 3) := by decide +kernel
theorem dX6_clock_19 : decode cX6_clock 19 = .ok (.iconst 1, 1) := by decide +kernel
theorem dX6_clock_20 : decode cX6_clock 20 = .ok (.goto 4, 3) := by decide +kernel
theorem dX6_clock_23 : decode cX6_clock 23 = .ok (.iconst 0, 1) := by decide +kernel
theorem dX6_clock_24 : decode cX6_clock 24 = .ok (.putfield 75, 3) := by decide +kernel
theorem dX6_clock_27 : decode cX6_clock 27 = .ok (.aload_n 0, 1) := by decide +kernel
theorem dX6_clock_28 : decode cX6_clock 28 = .ok (.getfield 75, 3) := by decide +kernel
theorem dX6_clock_31 : decode cX6_clock 31 = .ok (.ifCond .le 5, 3) := by decide +kernel
theorem dX6_clock_34 : decode cX6_clock 34 = .ok (.iconst 0, 1) := by decide +kernel
theorem dX6_clock_35 : decode cX6_clock 35 = .ok (.ireturn, 1) := by decide +kernel
theorem dX6_clock_36 : decode cX6_clock 36 = .ok (.iload_n 2, 1) := by decide +kernel
theorem dX6_clock_37 : decode cX6_clock 37 = .ok (.tableswitch 87 0 5 #[39, 47, 55, 63, 71, 80], 39) := by decide +kernel
theorem dX6_clock_76 : decode cX6_clock 76 = .ok (.aload_n 0, 1) := by decide +kernel
theorem dX6_clock_77 : decode cX6_clock 77 = .ok (.getfield 50, 3) := by decide +kernel
theorem dX6_clock_80 : decode cX6_clock 80 = .ok (.iload_n 1, 1) := by decide +kernel
theorem dX6_clock_81 : decode cX6_clock 81 = .ok (.laload, 1) := by decide +kernel
theorem dX6_clock_82 : decode cX6_clock 82 = .ok (.l2i, 1) := by decide +kernel
theorem dX6_clock_83 : decode cX6_clock 83 = .ok (.ireturn, 1) := by decide +kernel
theorem dX6_clock_84 : decode cX6_clock 84 = .ok (.aload_n 0, 1) := by decide +kernel
theorem dX6_clock_85 : decode cX6_clock 85 = .ok (.getfield 53, 3) := by decide +kernel
theorem dX6_clock_88 : decode cX6_clock 88 = .ok (.iload_n 1, 1) := by decide +kernel
theorem dX6_clock_89 : decode cX6_clock 89 = .ok (.laload, 1) := by decide +kernel
theorem dX6_clock_90 : decode cX6_clock 90 = .ok (.l2i, 1) := by decide +kernel
theorem dX6_clock_91 : decode cX6_clock 91 = .ok (.ireturn, 1) := by decide +kernel
theorem dX6_clock_92 : decode cX6_clock 92 = .ok (.aload_n 0, 1) := by decide +kernel
theorem dX6_clock_93 : decode cX6_clock 93 = .ok (.getfield 56, 3) := by decide +kernel
theorem dX6_clock_96 : decode cX6_clock 96 = .ok (.iload_n 1, 1) := by decide +kernel
theorem dX6_clock_97 : decode cX6_clock 97 = .ok (.laload, 1) := by decide +kernel
theorem dX6_clock_98 : decode cX6_clock 98 = .ok (.l2i, 1) := by decide +kernel
theorem dX6_clock_99 : decode cX6_clock 99 = .ok (.ireturn, 1) := by decide +kernel
theorem dX6_clock_100 : decode cX6_clock 100 = .ok (.aload_n 0, 1) := by decide +kernel
theorem dX6_clock_101 : decode cX6_clock 101 = .ok (.getfield 59, 3) := by decide +kernel
theorem dX6_clock_104 : decode cX6_clock 104 = .ok (.iload_n 1, 1) := by decide +kernel
theorem dX6_clock_105 : decode cX6_clock 105 = .ok (.laload, 1) := by decide +kernel
theorem dX6_clock_106 : decode cX6_clock 106 = .ok (.l2i, 1) := by decide +kernel
theorem dX6_clock_107 : decode cX6_clock 107 = .ok (.ireturn, 1) := by decide +kernel
theorem dX6_clock_108 : decode cX6_clock 108 = .ok (.aload_n 0, 1) := by decide +kernel
theorem dX6_clock_109 : decode cX6_clock 109 = .ok (.getfield 44, 3) := by decide +kernel
theorem dX6_clock_112 : decode cX6_clock 112 = .ok (.iload_n 1, 1) := by decide +kernel
theorem dX6_clock_113 : decode cX6_clock 113 = .ok (.iaload, 1) := by decide +kernel
theorem dX6_clock_114 : decode cX6_clock 114 = .ok (.iconst 1, 1) := by decide +kernel
theorem dX6_clock_115 : decode cX6_clock 115 = .ok (.iadd, 1) := by decide +kernel
theorem dX6_clock_116 : decode cX6_clock 116 = .ok (.ireturn, 1) := by decide +kernel
theorem dX6_clock_117 : decode cX6_clock 117 = .ok (.aload_n 0, 1) := by decide +kernel
theorem dX6_clock_118 : decode cX6_clock 118 = .ok (.getfield 47, 3) := by decide +kernel
theorem dX6_clock_121 : decode cX6_clock 121 = .ok (.iload_n 1, 1) := by decide +kernel
theorem dX6_clock_122 : decode cX6_clock 122 = .ok (.iaload, 1) := by decide +kernel
theorem dX6_clock_123 : decode cX6_clock 123 = .ok (.ireturn, 1) := by decide +kernel
theorem dX6_clock_124 : decode cX6_clock 124 = .ok (.aload_n 0, 1) := by decide +kernel
theorem dX6_clock_125 : decode cX6_clock 125 = .ok (.aload_n 0, 1) := by decide +kernel
theorem dX6_clock_126 : decode cX6_clock 126 = .ok (.getfield 44, 3) := by decide +kernel
theorem dX6_clock_129 : decode cX6_clock 129 = .ok (.iload_n 1, 1) := by decide +kernel
theorem dX6_clock_130 : decode cX6_clock 130 = .ok (.iaload, 1) := by decide +kernel
theorem dX6_clock_131 : decode cX6_clock 131 = .ok (.iconst 0, 1) := by decide +kernel
theorem dX6_clock_132 : decode cX6_clock 132 = .ok (.invokevirtual 218, 3) := by decide +kernel
theorem dX6_clock_135 : decode cX6_clock 135 = .ok (.ireturn, 1) := by decide +kernel
theorem dX6_part_0 : decode cX6_part 0 = .ok (.lload_n 0, 1) := by decide +kernel
theorem dX6_part_1 : decode cX6_part 1 = .ok (.lload_n 2, 1) := by decide +kernel
theorem dX6_part_2 : decode cX6_part 2 = .ok (.invokestatic 172, 3) := by decide +kernel
theorem dX6_part_5 : decode cX6_part 5 = .ok (.lstore 5, 2) := by decide +kernel
theorem dX6_part_7 : decode cX6_part 7 = .ok (.iload 4, 2) := by decide +kernel
theorem dX6_part_9 : decode cX6_part 9 = .ok (.ifCond .ne 10, 3) := by decide +kernel
theorem dX6_part_12 : decode cX6_part 12 = .ok (.lload_n 0, 1) := by decide +kernel
theorem dX6_part_13 : decode cX6_part 13 = .ok (.lload 5, 2) := by decide +kernel
theorem dX6_part_15 : decode cX6_part 15 = .ok (.ldiv, 1) := by decide +kernel
theorem dX6_part_16 : decode cX6_part 16 = .ok (.goto 7, 3) := by decide +kernel
theorem dX6_part_19 : decode cX6_part 19 = .ok (.lload_n 2, 1) := by decide +kernel
theorem dX6_part_20 : decode cX6_part 20 = .ok (.lload 5, 2) := by decide +kernel
theorem dX6_part_22 : decode cX6_part 22 = .ok (.ldiv, 1) := by decide +kernel
theorem dX6_part_23 : decode cX6_part 23 = .ok (.lreturn, 1) := by decide +kernel
theorem dX6_edge_0 : decode cX6_edge 0 = .ok (.aload_n 0, 1) := by decide +kernel
theorem dX6_edge_1 : decode cX6_edge 1 = .ok (.aload_n 0, 1) := by decide +kernel
theorem dX6_edge_2 : decode cX6_edge 2 = .ok (.iload_n 1, 1) := by decide +kernel
theorem dX6_edge_3 : decode cX6_edge 3 = .ok (.invokevirtual 215, 3) := by decide +kernel
theorem dX6_edge_6 : decode cX6_edge 6 = .ok (.ifCond .eq 23, 3) := by decide +kernel
theorem dX6_edge_9 : decode cX6_edge 9 = .ok (.iload_n 2, 1) := by decide +kernel
theorem dX6_edge_10 : decode cX6_edge 10 = .ok (.ifCond .lt 19, 3) := by decide +kernel
theorem dX6_edge_13 : decode cX6_edge 13 = .ok (.iload_n 2, 1) := by decide +kernel
theorem dX6_edge_14 : decode cX6_edge 14 = .ok (.sipush 1000, 3) := by decide +kernel
theorem dX6_edge_17 : decode cX6_edge 17 = .ok (.if_icmp .gt 12, 3) := by decide +kernel
theorem dX6_edge_20 : decode cX6_edge 20 = .ok (.iload_n 3, 1) := by decide +kernel
theorem dX6_edge_21 : decode cX6_edge 21 = .ok (.ifCond .lt 8, 3) := by decide +kernel
theorem dX6_edge_24 : decode cX6_edge 24 = .ok (.iload_n 3, 1) := by decide +kernel
theorem dX6_edge_25 : decode cX6_edge 25 = .ok (.iconst 2, 1) := by decide +kernel
theorem dX6_edge_26 : decode cX6_edge 26 = .ok (.if_icmp .le 7, 3) := by decide +kernel
theorem dX6_edge_29 : decode cX6_edge 29 = .ok (.iconst 1, 1) := by decide +kernel
theorem dX6_edge_30 : decode cX6_edge 30 = .ok (.goto 4, 3) := by decide +kernel
theorem dX6_edge_33 : decode cX6_edge 33 = .ok (.iconst 0, 1) := by decide +kernel
theorem dX6_edge_34 : decode cX6_edge 34 = .ok (.putfield 75, 3) := by decide +kernel
theorem dX6_edge_37 : decode cX6_edge 37 = .ok (.aload_n 0, 1) := by decide +kernel
theorem dX6_edge_38 : decode cX6_edge 38 = .ok (.getfield 75, 3) := by decide +kernel
theorem dX6_edge_41 : decode cX6_edge 41 = .ok (.ifCond .le 5, 3) := by decide +kernel
theorem dX6_edge_44 : decode cX6_edge 44 = .ok (.lconst 0, 1) := by decide +kernel
theorem dX6_edge_45 : decode cX6_edge 45 = .ok (.lreturn, 1) := by decide +kernel
theorem dX6_edge_46 : decode cX6_edge 46 = .ok (.aload_n 0, 1) := by decide +kernel
theorem dX6_edge_47 : decode cX6_edge 47 = .ok (.getfield 53, 3) := by decide +kernel
theorem dX6_edge_50 : decode cX6_edge 50 = .ok (.iload_n 1, 1) := by decide +kernel
theorem dX6_edge_51 : decode cX6_edge 51 = .ok (.laload, 1) := by decide +kernel
theorem dX6_edge_52 : decode cX6_edge 52 = .ok (.aload_n 0, 1) := by decide +kernel
theorem dX6_edge_53 : decode cX6_edge 53 = .ok (.getfield 56, 3) := by decide +kernel
theorem dX6_edge_56 : decode cX6_edge 56 = .ok (.iload_n 1, 1) := by decide +kernel
theorem dX6_edge_57 : decode cX6_edge 57 = .ok (.laload, 1) := by decide +kernel
theorem dX6_edge_58 : decode cX6_edge 58 = .ok (.lcmp, 1) := by decide +kernel
theorem dX6_edge_59 : decode cX6_edge 59 = .ok (.ifCond .ge 7, 3) := by decide +kernel
theorem dX6_edge_62 : decode cX6_edge 62 = .ok (.iconst 1, 1) := by decide +kernel
theorem dX6_edge_63 : decode cX6_edge 63 = .ok (.goto 4, 3) := by decide +kernel
theorem dX6_edge_66 : decode cX6_edge 66 = .ok (.iconst 0, 1) := by decide +kernel
theorem dX6_edge_67 : decode cX6_edge 67 = .ok (.iload_n 2, 1) := by decide +kernel
theorem dX6_edge_68 : decode cX6_edge 68 = .ok (.iconst 2, 1) := by decide +kernel
theorem dX6_edge_69 : decode cX6_edge 69 = .ok (.irem, 1) := by decide +kernel
theorem dX6_edge_70 : decode cX6_edge 70 = .ok (.ifCond .ne 7, 3) := by decide +kernel
theorem dX6_edge_73 : decode cX6_edge 73 = .ok (.iconst 1, 1) := by decide +kernel
theorem dX6_edge_74 : decode cX6_edge 74 = .ok (.goto 4, 3) := by decide +kernel
theorem dX6_edge_77 : decode cX6_edge 77 = .ok (.iconst 0, 1) := by decide +kernel
theorem dX6_edge_78 : decode cX6_edge 78 = .ok (.if_icmp .ne 7, 3) := by decide +kernel
theorem dX6_edge_81 : decode cX6_edge 81 = .ok (.iconst 1, 1) := by decide +kernel
theorem dX6_edge_82 : decode cX6_edge 82 = .ok (.goto 4, 3) := by decide +kernel
theorem dX6_edge_85 : decode cX6_edge 85 = .ok (.iconst 0, 1) := by decide +kernel
theorem dX6_edge_86 : decode cX6_edge 86 = .ok (.istore 4, 2) := by decide +kernel
theorem dX6_edge_88 : decode cX6_edge 88 = .ok (.iload_n 2, 1) := by decide +kernel
theorem dX6_edge_89 : decode cX6_edge 89 = .ok (.iconst 2, 1) := by decide +kernel
theorem dX6_edge_90 : decode cX6_edge 90 = .ok (.idiv, 1) := by decide +kernel
theorem dX6_edge_91 : decode cX6_edge 91 = .ok (.i2l, 1) := by decide +kernel
theorem dX6_edge_92 : decode cX6_edge 92 = .ok (.aload_n 0, 1) := by decide +kernel
theorem dX6_edge_93 : decode cX6_edge 93 = .ok (.getfield 50, 3) := by decide +kernel
theorem dX6_edge_96 : decode cX6_edge 96 = .ok (.iload_n 1, 1) := by decide +kernel
theorem dX6_edge_97 : decode cX6_edge 97 = .ok (.laload, 1) := by decide +kernel
theorem dX6_edge_98 : decode cX6_edge 98 = .ok (.lmul, 1) := by decide +kernel
theorem dX6_edge_99 : decode cX6_edge 99 = .ok (.iload 4, 2) := by decide +kernel
theorem dX6_edge_101 : decode cX6_edge 101 = .ok (.ifCond .eq 12, 3) := by decide +kernel
theorem dX6_edge_104 : decode cX6_edge 104 = .ok (.aload_n 0, 1) := by decide +kernel
theorem dX6_edge_105 : decode cX6_edge 105 = .ok (.getfield 53, 3) := by decide +kernel
theorem dX6_edge_108 : decode cX6_edge 108 = .ok (.iload_n 1, 1) := by decide +kernel
theorem dX6_edge_109 : decode cX6_edge 109 = .ok (.laload, 1) := by decide +kernel
theorem dX6_edge_110 : decode cX6_edge 110 = .ok (.goto 9, 3) := by decide +kernel
theorem dX6_edge_113 : decode cX6_edge 113 = .ok (.aload_n 0, 1) := by decide +kernel
theorem dX6_edge_114 : decode cX6_edge 114 = .ok (.getfield 56, 3) := by decide +kernel
theorem dX6_edge_117 : decode cX6_edge 117 = .ok (.iload_n 1, 1) := by decide +kernel
theorem dX6_edge_118 : decode cX6_edge 118 = .ok (.laload, 1) := by decide +kernel
theorem dX6_edge_119 : decode cX6_edge 119 = .ok (.ladd, 1) := by decide +kernel
theorem dX6_edge_120 : decode cX6_edge 120 = .ok (.lstore 5, 2) := by decide +kernel
theorem dX6_edge_122 : decode cX6_edge 122 = .ok (.iload_n 3, 1) := by decide +kernel
theorem dX6_edge_123 : decode cX6_edge 123 = .ok (.iconst 2, 1) := by decide +kernel
theorem dX6_edge_124 : decode cX6_edge 124 = .ok (.if_icmp .ne 16, 3) := by decide +kernel
theorem dX6_edge_127 : decode cX6_edge 127 = .ok (.iload 4, 2) := by decide +kernel
theorem dX6_edge_129 : decode cX6_edge 129 = .ok (.ifCond .eq 7, 3) := by decide +kernel
theorem dX6_edge_132 : decode cX6_edge 132 = .ok (.lconst 1, 1) := by decide +kernel
theorem dX6_edge_133 : decode cX6_edge 133 = .ok (.goto 19, 3) := by decide +kernel
theorem dX6_edge_136 : decode cX6_edge 136 = .ok (.lconst 0, 1) := by decide +kernel
theorem dX6_edge_137 : decode cX6_edge 137 = .ok (.goto 15, 3) := by decide +kernel
theorem dX6_edge_140 : decode cX6_edge 140 = .ok (.lload 5, 2) := by decide +kernel
theorem dX6_edge_142 : decode cX6_edge 142 = .ok (.aload_n 0, 1) := by decide +kernel
theorem dX6_edge_143 : decode cX6_edge 143 = .ok (.getfield 59, 3) := by decide +kernel
theorem dX6_edge_146 : decode cX6_edge 146 = .ok (.iload_n 1, 1) := by decide +kernel
theorem dX6_edge_147 : decode cX6_edge 147 = .ok (.laload, 1) := by decide +kernel
theorem dX6_edge_148 : decode cX6_edge 148 = .ok (.iload_n 3, 1) := by decide +kernel
theorem dX6_edge_149 : decode cX6_edge 149 = .ok (.invokestatic 221, 3) := by decide +kernel
theorem dX6_edge_152 : decode cX6_edge 152 = .ok (.lreturn, 1) := by decide +kernel
theorem dX6_areApart_0 : decode cX6_areApart 0 = .ok (.iconst 0, 1) := by decide +kernel
theorem dX6_areApart_1 : decode cX6_areApart 1 = .ok (.istore_n 3, 1) := by decide +kernel
theorem dX6_areApart_2 : decode cX6_areApart 2 = .ok (.aload_n 0, 1) := by decide +kernel
theorem dX6_areApart_3 : decode cX6_areApart 3 = .ok (.getfield 22, 3) := by decide +kernel
theorem dX6_areApart_6 : decode cX6_areApart 6 = .ok (.aload_n 0, 1) := by decide +kernel
theorem dX6_areApart_7 : decode cX6_areApart 7 = .ok (.getfield 44, 3) := by decide +kernel
theorem dX6_areApart_10 : decode cX6_areApart 10 = .ok (.iload_n 1, 1) := by decide +kernel
theorem dX6_areApart_11 : decode cX6_areApart 11 = .ok (.iaload, 1) := by decide +kernel
theorem dX6_areApart_12 : decode cX6_areApart 12 = .ok (.laload, 1) := by decide +kernel
theorem dX6_areApart_13 : decode cX6_areApart 13 = .ok (.lstore 4, 2) := by decide +kernel
theorem dX6_areApart_15 : decode cX6_areApart 15 = .ok (.aload_n 0, 1) := by decide +kernel
theorem dX6_areApart_16 : decode cX6_areApart 16 = .ok (.getfield 22, 3) := by decide +kernel
theorem dX6_areApart_19 : decode cX6_areApart 19 = .ok (.aload_n 0, 1) := by decide +kernel
theorem dX6_areApart_20 : decode cX6_areApart 20 = .ok (.getfield 44, 3) := by decide +kernel
theorem dX6_areApart_23 : decode cX6_areApart 23 = .ok (.iload_n 2, 1) := by decide +kernel
theorem dX6_areApart_24 : decode cX6_areApart 24 = .ok (.iaload, 1) := by decide +kernel
theorem dX6_areApart_25 : decode cX6_areApart 25 = .ok (.laload, 1) := by decide +kernel
theorem dX6_areApart_26 : decode cX6_areApart 26 = .ok (.lstore 6, 2) := by decide +kernel
theorem dX6_areApart_28 : decode cX6_areApart 28 = .ok (.iconst 0, 1) := by decide +kernel
theorem dX6_areApart_29 : decode cX6_areApart 29 = .ok (.istore 8, 2) := by decide +kernel
theorem dX6_areApart_31 : decode cX6_areApart 31 = .ok (.iload 8, 2) := by decide +kernel
theorem dX6_areApart_33 : decode cX6_areApart 33 = .ok (.aload_n 0, 1) := by decide +kernel
theorem dX6_areApart_34 : decode cX6_areApart 34 = .ok (.getfield 205, 3) := by decide +kernel
theorem dX6_areApart_37 : decode cX6_areApart 37 = .ok (.if_icmp .ge 82, 3) := by decide +kernel
theorem dX6_areApart_40 : decode cX6_areApart 40 = .ok (.iload_n 3, 1) := by decide +kernel
theorem dX6_areApart_41 : decode cX6_areApart 41 = .ok (.ifCond .ne 66, 3) := by decide +kernel
theorem dX6_areApart_44 : decode cX6_areApart 44 = .ok (.aload_n 0, 1) := by decide +kernel
theorem dX6_areApart_45 : decode cX6_areApart 45 = .ok (.getfield 19, 3) := by decide +kernel
theorem dX6_areApart_48 : decode cX6_areApart 48 = .ok (.iload 8, 2) := by decide +kernel
theorem dX6_areApart_50 : decode cX6_areApart 50 = .ok (.iaload, 1) := by decide +kernel
theorem dX6_areApart_51 : decode cX6_areApart 51 = .ok (.iconst 3, 1) := by decide +kernel
theorem dX6_areApart_52 : decode cX6_areApart 52 = .ok (.if_icmp .ne 59, 3) := by decide +kernel
theorem dX6_areApart_55 : decode cX6_areApart 55 = .ok (.aload_n 0, 1) := by decide +kernel
theorem dX6_areApart_56 : decode cX6_areApart 56 = .ok (.getfield 22, 3) := by decide +kernel
theorem dX6_areApart_59 : decode cX6_areApart 59 = .ok (.iload 8, 2) := by decide +kernel
theorem dX6_areApart_61 : decode cX6_areApart 61 = .ok (.laload, 1) := by decide +kernel
theorem dX6_areApart_62 : decode cX6_areApart 62 = .ok (.lload 4, 2) := by decide +kernel
theorem dX6_areApart_64 : decode cX6_areApart 64 = .ok (.lcmp, 1) := by decide +kernel
theorem dX6_areApart_65 : decode cX6_areApart 65 = .ok (.ifCond .ne 16, 3) := by decide +kernel
theorem dX6_areApart_68 : decode cX6_areApart 68 = .ok (.aload_n 0, 1) := by decide +kernel
theorem dX6_areApart_69 : decode cX6_areApart 69 = .ok (.getfield 26, 3) := by decide +kernel
theorem dX6_areApart_72 : decode cX6_areApart 72 = .ok (.iload 8, 2) := by decide +kernel
theorem dX6_areApart_74 : decode cX6_areApart 74 = .ok (.laload, 1) := by decide +kernel
theorem dX6_areApart_75 : decode cX6_areApart 75 = .ok (.lload 6, 2) := by decide +kernel
theorem dX6_areApart_77 : decode cX6_areApart 77 = .ok (.lcmp, 1) := by decide +kernel
theorem dX6_areApart_78 : decode cX6_areApart 78 = .ok (.ifCond .eq 29, 3) := by decide +kernel
theorem dX6_areApart_81 : decode cX6_areApart 81 = .ok (.aload_n 0, 1) := by decide +kernel
theorem dX6_areApart_82 : decode cX6_areApart 82 = .ok (.getfield 22, 3) := by decide +kernel
theorem dX6_areApart_85 : decode cX6_areApart 85 = .ok (.iload 8, 2) := by decide +kernel
theorem dX6_areApart_87 : decode cX6_areApart 87 = .ok (.laload, 1) := by decide +kernel
theorem dX6_areApart_88 : decode cX6_areApart 88 = .ok (.lload 6, 2) := by decide +kernel
theorem dX6_areApart_90 : decode cX6_areApart 90 = .ok (.lcmp, 1) := by decide +kernel
theorem dX6_areApart_91 : decode cX6_areApart 91 = .ok (.ifCond .ne 20, 3) := by decide +kernel
theorem dX6_areApart_94 : decode cX6_areApart 94 = .ok (.aload_n 0, 1) := by decide +kernel
theorem dX6_areApart_95 : decode cX6_areApart 95 = .ok (.getfield 26, 3) := by decide +kernel
theorem dX6_areApart_98 : decode cX6_areApart 98 = .ok (.iload 8, 2) := by decide +kernel
theorem dX6_areApart_100 : decode cX6_areApart 100 = .ok (.laload, 1) := by decide +kernel
theorem dX6_areApart_101 : decode cX6_areApart 101 = .ok (.lload 4, 2) := by decide +kernel
theorem dX6_areApart_103 : decode cX6_areApart 103 = .ok (.lcmp, 1) := by decide +kernel
theorem dX6_areApart_104 : decode cX6_areApart 104 = .ok (.ifCond .ne 7, 3) := by decide +kernel
theorem dX6_areApart_107 : decode cX6_areApart 107 = .ok (.iconst 1, 1) := by decide +kernel
theorem dX6_areApart_108 : decode cX6_areApart 108 = .ok (.goto 4, 3) := by decide +kernel
theorem dX6_areApart_111 : decode cX6_areApart 111 = .ok (.iconst 0, 1) := by decide +kernel
theorem dX6_areApart_112 : decode cX6_areApart 112 = .ok (.istore_n 3, 1) := by decide +kernel
theorem dX6_areApart_113 : decode cX6_areApart 113 = .ok (.iinc 8 1, 3) := by decide +kernel
theorem dX6_areApart_116 : decode cX6_areApart 116 = .ok (.goto (-85), 3) := by decide +kernel
theorem dX6_areApart_119 : decode cX6_areApart 119 = .ok (.iload_n 3, 1) := by decide +kernel
theorem dX6_areApart_120 : decode cX6_areApart 120 = .ok (.ireturn, 1) := by decide +kernel
theorem dX6_distance_0 : decode cX6_distance 0 = .ok (.aload_n 0, 1) := by decide +kernel
theorem dX6_distance_1 : decode cX6_distance 1 = .ok (.aload_n 0, 1) := by decide +kernel
theorem dX6_distance_2 : decode cX6_distance 2 = .ok (.iload_n 1, 1) := by decide +kernel
theorem dX6_distance_3 : decode cX6_distance 3 = .ok (.invokevirtual 215, 3) := by decide +kernel
theorem dX6_distance_6 : decode cX6_distance 6 = .ok (.ifCond .eq 20, 3) := by decide +kernel
theorem dX6_distance_9 : decode cX6_distance 9 = .ok (.aload_n 0, 1) := by decide +kernel
theorem dX6_distance_10 : decode cX6_distance 10 = .ok (.iload_n 2, 1) := by decide +kernel
theorem dX6_distance_11 : decode cX6_distance 11 = .ok (.invokevirtual 215, 3) := by decide +kernel
theorem dX6_distance_14 : decode cX6_distance 14 = .ok (.ifCond .eq 12, 3) := by decide +kernel
theorem dX6_distance_17 : decode cX6_distance 17 = .ok (.iload_n 3, 1) := by decide +kernel
theorem dX6_distance_18 : decode cX6_distance 18 = .ok (.ifCond .lt 8, 3) := by decide +kernel
theorem dX6_distance_21 : decode cX6_distance 21 = .ok (.iload_n 3, 1) := by decide +kernel
theorem dX6_distance_22 : decode cX6_distance 22 = .ok (.iconst 1, 1) := by decide +kernel
theorem dX6_distance_23 : decode cX6_distance 23 = .ok (.if_icmp .le 7, 3) := by decide +kernel
theorem dX6_distance_26 : decode cX6_distance 26 = .ok (.iconst 1, 1) := by decide +kernel
theorem dX6_distance_27 : decode cX6_distance 27 = .ok (.goto 4, 3) := by decide +kernel
theorem dX6_distance_30 : decode cX6_distance 30 = .ok (.iconst 0, 1) := by decide +kernel
theorem dX6_distance_31 : decode cX6_distance 31 = .ok (.putfield 75, 3) := by decide +kernel
theorem dX6_distance_34 : decode cX6_distance 34 = .ok (.aload_n 0, 1) := by decide +kernel
theorem dX6_distance_35 : decode cX6_distance 35 = .ok (.getfield 75, 3) := by decide +kernel
theorem dX6_distance_38 : decode cX6_distance 38 = .ok (.ifCond .le 5, 3) := by decide +kernel
theorem dX6_distance_41 : decode cX6_distance 41 = .ok (.lconst 0, 1) := by decide +kernel
theorem dX6_distance_42 : decode cX6_distance 42 = .ok (.lreturn, 1) := by decide +kernel
theorem dX6_distance_43 : decode cX6_distance 43 = .ok (.aload_n 0, 1) := by decide +kernel
theorem dX6_distance_44 : decode cX6_distance 44 = .ok (.iload_n 1, 1) := by decide +kernel
theorem dX6_distance_45 : decode cX6_distance 45 = .ok (.iload_n 2, 1) := by decide +kernel
theorem dX6_distance_46 : decode cX6_distance 46 = .ok (.invokevirtual 225, 3) := by decide +kernel
theorem dX6_distance_49 : decode cX6_distance 49 = .ok (.ifCond .eq 6, 3) := by decide +kernel
theorem dX6_distance_52 : decode cX6_distance 52 = .ok (.iload_n 3, 1) := by decide +kernel
theorem dX6_distance_53 : decode cX6_distance 53 = .ok (.i2l, 1) := by decide +kernel
theorem dX6_distance_54 : decode cX6_distance 54 = .ok (.lreturn, 1) := by decide +kernel
theorem dX6_distance_55 : decode cX6_distance 55 = .ok (.aload_n 0, 1) := by decide +kernel
theorem dX6_distance_56 : decode cX6_distance 56 = .ok (.getfield 59, 3) := by decide +kernel
theorem dX6_distance_59 : decode cX6_distance 59 = .ok (.iload_n 1, 1) := by decide +kernel
theorem dX6_distance_60 : decode cX6_distance 60 = .ok (.laload, 1) := by decide +kernel
theorem dX6_distance_61 : decode cX6_distance 61 = .ok (.aload_n 0, 1) := by decide +kernel
theorem dX6_distance_62 : decode cX6_distance 62 = .ok (.getfield 59, 3) := by decide +kernel
theorem dX6_distance_65 : decode cX6_distance 65 = .ok (.iload_n 1, 1) := by decide +kernel
theorem dX6_distance_66 : decode cX6_distance 66 = .ok (.laload, 1) := by decide +kernel
theorem dX6_distance_67 : decode cX6_distance 67 = .ok (.aload_n 0, 1) := by decide +kernel
theorem dX6_distance_68 : decode cX6_distance 68 = .ok (.getfield 59, 3) := by decide +kernel
theorem dX6_distance_71 : decode cX6_distance 71 = .ok (.iload_n 2, 1) := by decide +kernel
theorem dX6_distance_72 : decode cX6_distance 72 = .ok (.laload, 1) := by decide +kernel
theorem dX6_distance_73 : decode cX6_distance 73 = .ok (.invokestatic 172, 3) := by decide +kernel
theorem dX6_distance_76 : decode cX6_distance 76 = .ok (.ldiv, 1) := by decide +kernel
theorem dX6_distance_77 : decode cX6_distance 77 = .ok (.aload_n 0, 1) := by decide +kernel
theorem dX6_distance_78 : decode cX6_distance 78 = .ok (.getfield 59, 3) := by decide +kernel
theorem dX6_distance_81 : decode cX6_distance 81 = .ok (.iload_n 2, 1) := by decide +kernel
theorem dX6_distance_82 : decode cX6_distance 82 = .ok (.laload, 1) := by decide +kernel
theorem dX6_distance_83 : decode cX6_distance 83 = .ok (.lmul, 1) := by decide +kernel
theorem dX6_distance_84 : decode cX6_distance 84 = .ok (.lstore 4, 2) := by decide +kernel
theorem dX6_distance_86 : decode cX6_distance 86 = .ok (.aload_n 0, 1) := by decide +kernel
theorem dX6_distance_87 : decode cX6_distance 87 = .ok (.getfield 50, 3) := by decide +kernel
theorem dX6_distance_90 : decode cX6_distance 90 = .ok (.iload_n 1, 1) := by decide +kernel
theorem dX6_distance_91 : decode cX6_distance 91 = .ok (.laload, 1) := by decide +kernel
theorem dX6_distance_92 : decode cX6_distance 92 = .ok (.lload 4, 2) := by decide +kernel
theorem dX6_distance_94 : decode cX6_distance 94 = .ok (.aload_n 0, 1) := by decide +kernel
theorem dX6_distance_95 : decode cX6_distance 95 = .ok (.getfield 59, 3) := by decide +kernel
theorem dX6_distance_98 : decode cX6_distance 98 = .ok (.iload_n 1, 1) := by decide +kernel
theorem dX6_distance_99 : decode cX6_distance 99 = .ok (.laload, 1) := by decide +kernel
theorem dX6_distance_100 : decode cX6_distance 100 = .ok (.ldiv, 1) := by decide +kernel
theorem dX6_distance_101 : decode cX6_distance 101 = .ok (.lmul, 1) := by decide +kernel
theorem dX6_distance_102 : decode cX6_distance 102 = .ok (.aload_n 0, 1) := by decide +kernel
theorem dX6_distance_103 : decode cX6_distance 103 = .ok (.getfield 50, 3) := by decide +kernel
theorem dX6_distance_106 : decode cX6_distance 106 = .ok (.iload_n 2, 1) := by decide +kernel
theorem dX6_distance_107 : decode cX6_distance 107 = .ok (.laload, 1) := by decide +kernel
theorem dX6_distance_108 : decode cX6_distance 108 = .ok (.lload 4, 2) := by decide +kernel
theorem dX6_distance_110 : decode cX6_distance 110 = .ok (.aload_n 0, 1) := by decide +kernel
theorem dX6_distance_111 : decode cX6_distance 111 = .ok (.getfield 59, 3) := by decide +kernel
theorem dX6_distance_114 : decode cX6_distance 114 = .ok (.iload_n 2, 1) := by decide +kernel
theorem dX6_distance_115 : decode cX6_distance 115 = .ok (.laload, 1) := by decide +kernel
theorem dX6_distance_116 : decode cX6_distance 116 = .ok (.ldiv, 1) := by decide +kernel
theorem dX6_distance_117 : decode cX6_distance 117 = .ok (.lmul, 1) := by decide +kernel
theorem dX6_distance_118 : decode cX6_distance 118 = .ok (.invokestatic 172, 3) := by decide +kernel
theorem dX6_distance_121 : decode cX6_distance 121 = .ok (.lstore 6, 2) := by decide +kernel
theorem dX6_distance_123 : decode cX6_distance 123 = .ok (.aload_n 0, 1) := by decide +kernel
theorem dX6_distance_124 : decode cX6_distance 124 = .ok (.getfield 53, 3) := by decide +kernel
theorem dX6_distance_127 : decode cX6_distance 127 = .ok (.iload_n 2, 1) := by decide +kernel
theorem dX6_distance_128 : decode cX6_distance 128 = .ok (.laload, 1) := by decide +kernel
theorem dX6_distance_129 : decode cX6_distance 129 = .ok (.lload 4, 2) := by decide +kernel
theorem dX6_distance_131 : decode cX6_distance 131 = .ok (.aload_n 0, 1) := by decide +kernel
theorem dX6_distance_132 : decode cX6_distance 132 = .ok (.getfield 59, 3) := by decide +kernel
theorem dX6_distance_135 : decode cX6_distance 135 = .ok (.iload_n 2, 1) := by decide +kernel
theorem dX6_distance_136 : decode cX6_distance 136 = .ok (.laload, 1) := by decide +kernel
theorem dX6_distance_137 : decode cX6_distance 137 = .ok (.ldiv, 1) := by decide +kernel
theorem dX6_distance_138 : decode cX6_distance 138 = .ok (.lmul, 1) := by decide +kernel
theorem dX6_distance_139 : decode cX6_distance 139 = .ok (.aload_n 0, 1) := by decide +kernel
theorem dX6_distance_140 : decode cX6_distance 140 = .ok (.getfield 53, 3) := by decide +kernel
theorem dX6_distance_143 : decode cX6_distance 143 = .ok (.iload_n 1, 1) := by decide +kernel
theorem dX6_distance_144 : decode cX6_distance 144 = .ok (.laload, 1) := by decide +kernel
theorem dX6_distance_145 : decode cX6_distance 145 = .ok (.lload 4, 2) := by decide +kernel
theorem dX6_distance_147 : decode cX6_distance 147 = .ok (.aload_n 0, 1) := by decide +kernel
theorem dX6_distance_148 : decode cX6_distance 148 = .ok (.getfield 59, 3) := by decide +kernel
theorem dX6_distance_151 : decode cX6_distance 151 = .ok (.iload_n 1, 1) := by decide +kernel
theorem dX6_distance_152 : decode cX6_distance 152 = .ok (.laload, 1) := by decide +kernel
theorem dX6_distance_153 : decode cX6_distance 153 = .ok (.ldiv, 1) := by decide +kernel
theorem dX6_distance_154 : decode cX6_distance 154 = .ok (.lmul, 1) := by decide +kernel
theorem dX6_distance_155 : decode cX6_distance 155 = .ok (.lsub, 1) := by decide +kernel
theorem dX6_distance_156 : decode cX6_distance 156 = .ok (.lload 6, 2) := by decide +kernel
theorem dX6_distance_158 : decode cX6_distance 158 = .ok (.lrem, 1) := by decide +kernel
theorem dX6_distance_159 : decode cX6_distance 159 = .ok (.lstore 8, 2) := by decide +kernel
theorem dX6_distance_161 : decode cX6_distance 161 = .ok (.lload 8, 2) := by decide +kernel
theorem dX6_distance_163 : decode cX6_distance 163 = .ok (.lconst 0, 1) := by decide +kernel
theorem dX6_distance_164 : decode cX6_distance 164 = .ok (.lcmp, 1) := by decide +kernel
theorem dX6_distance_165 : decode cX6_distance 165 = .ok (.ifCond .gt 11, 3) := by decide +kernel
theorem dX6_distance_168 : decode cX6_distance 168 = .ok (.lload 8, 2) := by decide +kernel
theorem dX6_distance_170 : decode cX6_distance 170 = .ok (.lload 6, 2) := by decide +kernel
theorem dX6_distance_172 : decode cX6_distance 172 = .ok (.ladd, 1) := by decide +kernel
theorem dX6_distance_173 : decode cX6_distance 173 = .ok (.goto 5, 3) := by decide +kernel
theorem dX6_distance_176 : decode cX6_distance 176 = .ok (.lload 8, 2) := by decide +kernel
theorem dX6_distance_178 : decode cX6_distance 178 = .ok (.lstore 8, 2) := by decide +kernel
theorem dX6_distance_180 : decode cX6_distance 180 = .ok (.lload 8, 2) := by decide +kernel
theorem dX6_distance_182 : decode cX6_distance 182 = .ok (.lload 4, 2) := by decide +kernel
theorem dX6_distance_184 : decode cX6_distance 184 = .ok (.iload_n 3, 1) := by decide +kernel
theorem dX6_distance_185 : decode cX6_distance 185 = .ok (.invokestatic 221, 3) := by decide +kernel
theorem dX6_distance_188 : decode cX6_distance 188 = .ok (.lreturn, 1) := by decide +kernel
theorem dX6_fits_0 : decode cX6_fits 0 = .ok (.aload_n 0, 1) := by decide +kernel
theorem dX6_fits_1 : decode cX6_fits 1 = .ok (.getfield 41, 3) := by decide +kernel
theorem dX6_fits_4 : decode cX6_fits 4 = .ok (.iconst 3, 1) := by decide +kernel
theorem dX6_fits_5 : decode cX6_fits 5 = .ok (.iload_n 1, 1) := by decide +kernel
theorem dX6_fits_6 : decode cX6_fits 6 = .ok (.imul, 1) := by decide +kernel
theorem dX6_fits_7 : decode cX6_fits 7 = .ok (.iload_n 2, 1) := by decide +kernel
theorem dX6_fits_8 : decode cX6_fits 8 = .ok (.iadd, 1) := by decide +kernel
theorem dX6_fits_9 : decode cX6_fits 9 = .ok (.iaload, 1) := by decide +kernel
theorem dX6_fits_10 : decode cX6_fits 10 = .ok (.ifCond .eq 18, 3) := by decide +kernel
theorem dX6_fits_13 : decode cX6_fits 13 = .ok (.iload_n 3, 1) := by decide +kernel
theorem dX6_fits_14 : decode cX6_fits 14 = .ok (.iconst (-1), 1) := by decide +kernel
theorem dX6_fits_15 : decode cX6_fits 15 = .ok (.if_icmp .eq 17, 3) := by decide +kernel
theorem dX6_fits_18 : decode cX6_fits 18 = .ok (.aload_n 0, 1) := by decide +kernel
theorem dX6_fits_19 : decode cX6_fits 19 = .ok (.iload_n 1, 1) := by decide +kernel
theorem dX6_fits_20 : decode cX6_fits 20 = .ok (.iload_n 2, 1) := by decide +kernel
theorem dX6_fits_21 : decode cX6_fits 21 = .ok (.iload_n 3, 1) := by decide +kernel
theorem dX6_fits_22 : decode cX6_fits 22 = .ok (.invokevirtual 211, 3) := by decide +kernel
theorem dX6_fits_25 : decode cX6_fits 25 = .ok (.ifCond .eq 7, 3) := by decide +kernel
theorem dX6_fits_28 : decode cX6_fits 28 = .ok (.iconst 1, 1) := by decide +kernel
theorem dX6_fits_29 : decode cX6_fits 29 = .ok (.goto 4, 3) := by decide +kernel
theorem dX6_fits_32 : decode cX6_fits 32 = .ok (.iconst 0, 1) := by decide +kernel
theorem dX6_fits_33 : decode cX6_fits 33 = .ok (.ireturn, 1) := by decide +kernel
theorem dX6_strength_0 : decode cX6_strength 0 = .ok (.aload_n 0, 1) := by decide +kernel
theorem dX6_strength_1 : decode cX6_strength 1 = .ok (.getfield 19, 3) := by decide +kernel
theorem dX6_strength_4 : decode cX6_strength 4 = .ok (.iload_n 1, 1) := by decide +kernel
theorem dX6_strength_5 : decode cX6_strength 5 = .ok (.iaload, 1) := by decide +kernel
theorem dX6_strength_6 : decode cX6_strength 6 = .ok (.iconst 4, 1) := by decide +kernel
theorem dX6_strength_7 : decode cX6_strength 7 = .ok (.if_icmp .ne 7, 3) := by decide +kernel
theorem dX6_strength_10 : decode cX6_strength 10 = .ok (.iconst 2, 1) := by decide +kernel
theorem dX6_strength_11 : decode cX6_strength 11 = .ok (.goto 18, 3) := by decide +kernel
theorem dX6_strength_14 : decode cX6_strength 14 = .ok (.aload_n 0, 1) := by decide +kernel
theorem dX6_strength_15 : decode cX6_strength 15 = .ok (.getfield 19, 3) := by decide +kernel
theorem dX6_strength_18 : decode cX6_strength 18 = .ok (.iload_n 1, 1) := by decide +kernel
theorem dX6_strength_19 : decode cX6_strength 19 = .ok (.iaload, 1) := by decide +kernel
theorem dX6_strength_20 : decode cX6_strength 20 = .ok (.iconst 5, 1) := by decide +kernel
theorem dX6_strength_21 : decode cX6_strength 21 = .ok (.if_icmp .ne 7, 3) := by decide +kernel
theorem dX6_strength_24 : decode cX6_strength 24 = .ok (.iconst 0, 1) := by decide +kernel
theorem dX6_strength_25 : decode cX6_strength 25 = .ok (.goto 4, 3) := by decide +kernel
theorem dX6_strength_28 : decode cX6_strength 28 = .ok (.iconst 1, 1) := by decide +kernel
theorem dX6_strength_29 : decode cX6_strength 29 = .ok (.istore_n 2, 1) := by decide +kernel
theorem dX6_strength_30 : decode cX6_strength 30 = .ok (.bipush 8, 2) := by decide +kernel
theorem dX6_strength_32 : decode cX6_strength 32 = .ok (.iload_n 2, 1) := by decide +kernel
theorem dX6_strength_33 : decode cX6_strength 33 = .ok (.imul, 1) := by decide +kernel
theorem dX6_strength_34 : decode cX6_strength 34 = .ok (.aload_n 0, 1) := by decide +kernel
theorem dX6_strength_35 : decode cX6_strength 35 = .ok (.getfield 41, 3) := by decide +kernel
theorem dX6_strength_38 : decode cX6_strength 38 = .ok (.iconst 3, 1) := by decide +kernel
theorem dX6_strength_39 : decode cX6_strength 39 = .ok (.iload_n 1, 1) := by decide +kernel
theorem dX6_strength_40 : decode cX6_strength 40 = .ok (.imul, 1) := by decide +kernel
theorem dX6_strength_41 : decode cX6_strength 41 = .ok (.iaload, 1) := by decide +kernel
theorem dX6_strength_42 : decode cX6_strength 42 = .ok (.ifCond .le 7, 3) := by decide +kernel
theorem dX6_strength_45 : decode cX6_strength 45 = .ok (.iconst 4, 1) := by decide +kernel
theorem dX6_strength_46 : decode cX6_strength 46 = .ok (.goto 4, 3) := by decide +kernel
theorem dX6_strength_49 : decode cX6_strength 49 = .ok (.iconst 0, 1) := by decide +kernel
theorem dX6_strength_50 : decode cX6_strength 50 = .ok (.iadd, 1) := by decide +kernel
theorem dX6_strength_51 : decode cX6_strength 51 = .ok (.aload_n 0, 1) := by decide +kernel
theorem dX6_strength_52 : decode cX6_strength 52 = .ok (.getfield 41, 3) := by decide +kernel
theorem dX6_strength_55 : decode cX6_strength 55 = .ok (.iconst 3, 1) := by decide +kernel
theorem dX6_strength_56 : decode cX6_strength 56 = .ok (.iload_n 1, 1) := by decide +kernel
theorem dX6_strength_57 : decode cX6_strength 57 = .ok (.imul, 1) := by decide +kernel
theorem dX6_strength_58 : decode cX6_strength 58 = .ok (.iconst 2, 1) := by decide +kernel
theorem dX6_strength_59 : decode cX6_strength 59 = .ok (.iadd, 1) := by decide +kernel
theorem dX6_strength_60 : decode cX6_strength 60 = .ok (.iaload, 1) := by decide +kernel
theorem dX6_strength_61 : decode cX6_strength 61 = .ok (.ifCond .le 7, 3) := by decide +kernel
theorem dX6_strength_64 : decode cX6_strength 64 = .ok (.iconst 2, 1) := by decide +kernel
theorem dX6_strength_65 : decode cX6_strength 65 = .ok (.goto 4, 3) := by decide +kernel
theorem dX6_strength_68 : decode cX6_strength 68 = .ok (.iconst 0, 1) := by decide +kernel
theorem dX6_strength_69 : decode cX6_strength 69 = .ok (.iadd, 1) := by decide +kernel
theorem dX6_strength_70 : decode cX6_strength 70 = .ok (.aload_n 0, 1) := by decide +kernel
theorem dX6_strength_71 : decode cX6_strength 71 = .ok (.getfield 41, 3) := by decide +kernel
theorem dX6_strength_74 : decode cX6_strength 74 = .ok (.iconst 3, 1) := by decide +kernel
theorem dX6_strength_75 : decode cX6_strength 75 = .ok (.iload_n 1, 1) := by decide +kernel
theorem dX6_strength_76 : decode cX6_strength 76 = .ok (.imul, 1) := by decide +kernel
theorem dX6_strength_77 : decode cX6_strength 77 = .ok (.iconst 1, 1) := by decide +kernel
theorem dX6_strength_78 : decode cX6_strength 78 = .ok (.iadd, 1) := by decide +kernel
theorem dX6_strength_79 : decode cX6_strength 79 = .ok (.iaload, 1) := by decide +kernel
theorem dX6_strength_80 : decode cX6_strength 80 = .ok (.ifCond .le 7, 3) := by decide +kernel
theorem dX6_strength_83 : decode cX6_strength 83 = .ok (.iconst 1, 1) := by decide +kernel
theorem dX6_strength_84 : decode cX6_strength 84 = .ok (.goto 4, 3) := by decide +kernel
theorem dX6_strength_87 : decode cX6_strength 87 = .ok (.iconst 0, 1) := by decide +kernel
theorem dX6_strength_88 : decode cX6_strength 88 = .ok (.iadd, 1) := by decide +kernel
theorem dX6_strength_89 : decode cX6_strength 89 = .ok (.ireturn, 1) := by decide +kernel
theorem dX6_isPin_0 : decode cX6_isPin 0 = .ok (.iload_n 0, 1) := by decide +kernel
theorem dX6_isPin_1 : decode cX6_isPin 1 = .ok (.iconst (-1), 1) := by decide +kernel
theorem dX6_isPin_2 : decode cX6_isPin 2 = .ok (.if_icmp .lt 13, 3) := by decide +kernel
theorem dX6_isPin_5 : decode cX6_isPin 5 = .ok (.iload_n 0, 1) := by decide +kernel
theorem dX6_isPin_6 : decode cX6_isPin 6 = .ok (.bipush 40, 2) := by decide +kernel
theorem dX6_isPin_8 : decode cX6_isPin 8 = .ok (.if_icmp .ge 7, 3) := by decide +kernel
theorem dX6_isPin_11 : decode cX6_isPin 11 = .ok (.iconst 1, 1) := by decide +kernel
theorem dX6_isPin_12 : decode cX6_isPin 12 = .ok (.goto 4, 3) := by decide +kernel
theorem dX6_isPin_15 : decode cX6_isPin 15 = .ok (.iconst 0, 1) := by decide +kernel
theorem dX6_isPin_16 : decode cX6_isPin 16 = .ok (.ireturn, 1) := by decide +kernel
theorem dX6_exception_0 : decode cX6_exception 0 = .ok (.aload_n 0, 1) := by decide +kernel
theorem dX6_exception_1 : decode cX6_exception 1 = .ok (.iload_n 1, 1) := by decide +kernel
theorem dX6_exception_2 : decode cX6_exception 2 = .ok (.invokestatic 229, 3) := by decide +kernel
theorem dX6_exception_5 : decode cX6_exception 5 = .ok (.ifCond .eq 21, 3) := by decide +kernel
theorem dX6_exception_8 : decode cX6_exception 8 = .ok (.iload_n 2, 1) := by decide +kernel
theorem dX6_exception_9 : decode cX6_exception 9 = .ok (.invokestatic 229, 3) := by decide +kernel
theorem dX6_exception_12 : decode cX6_exception 12 = .ok (.ifCond .eq 14, 3) := by decide +kernel
theorem dX6_exception_15 : decode cX6_exception 15 = .ok (.iload_n 3, 1) := by decide +kernel
theorem dX6_exception_16 : decode cX6_exception 16 = .ok (.invokestatic 229, 3) := by decide +kernel
theorem dX6_exception_19 : decode cX6_exception 19 = .ok (.ifCond .eq 7, 3) := by decide +kernel
theorem dX6_exception_22 : decode cX6_exception 22 = .ok (.iconst 0, 1) := by decide +kernel
theorem dX6_exception_23 : decode cX6_exception 23 = .ok (.goto 4, 3) := by decide +kernel
theorem dX6_exception_26 : decode cX6_exception 26 = .ok (.iconst 1, 1) := by decide +kernel
theorem dX6_exception_27 : decode cX6_exception 27 = .ok (.putfield 75, 3) := by decide +kernel
theorem dX6_exception_30 : decode cX6_exception 30 = .ok (.iconst (-1), 1) := by decide +kernel
theorem dX6_exception_31 : decode cX6_exception 31 = .ok (.istore 4, 2) := by decide +kernel
theorem dX6_exception_33 : decode cX6_exception 33 = .ok (.iconst 0, 1) := by decide +kernel
theorem dX6_exception_34 : decode cX6_exception 34 = .ok (.istore 5, 2) := by decide +kernel
theorem dX6_exception_36 : decode cX6_exception 36 = .ok (.iload 5, 2) := by decide +kernel
theorem dX6_exception_38 : decode cX6_exception 38 = .ok (.aload_n 0, 1) := by decide +kernel
theorem dX6_exception_39 : decode cX6_exception 39 = .ok (.getfield 205, 3) := by decide +kernel
theorem dX6_exception_42 : decode cX6_exception 42 = .ok (.if_icmp .ge 114, 3) := by decide +kernel
theorem dX6_exception_45 : decode cX6_exception 45 = .ok (.aload_n 0, 1) := by decide +kernel
theorem dX6_exception_46 : decode cX6_exception 46 = .ok (.getfield 75, 3) := by decide +kernel
theorem dX6_exception_49 : decode cX6_exception 49 = .ok (.ifCond .ne 107, 3) := by decide +kernel
theorem dX6_exception_52 : decode cX6_exception 52 = .ok (.aload_n 0, 1) := by decide +kernel
theorem dX6_exception_53 : decode cX6_exception 53 = .ok (.getfield 19, 3) := by decide +kernel
theorem dX6_exception_56 : decode cX6_exception 56 = .ok (.iload 5, 2) := by decide +kernel
theorem dX6_exception_58 : decode cX6_exception 58 = .ok (.iaload, 1) := by decide +kernel
theorem dX6_exception_59 : decode cX6_exception 59 = .ok (.iconst 4, 1) := by decide +kernel
theorem dX6_exception_60 : decode cX6_exception 60 = .ok (.if_icmp .lt 52, 3) := by decide +kernel
theorem dX6_exception_63 : decode cX6_exception 63 = .ok (.aload_n 0, 1) := by decide +kernel
theorem dX6_exception_64 : decode cX6_exception 64 = .ok (.getfield 19, 3) := by decide +kernel
theorem dX6_exception_67 : decode cX6_exception 67 = .ok (.iload 5, 2) := by decide +kernel
theorem dX6_exception_69 : decode cX6_exception 69 = .ok (.iaload, 1) := by decide +kernel
theorem dX6_exception_70 : decode cX6_exception 70 = .ok (.bipush 7, 2) := by decide +kernel
theorem dX6_exception_72 : decode cX6_exception 72 = .ok (.if_icmp .gt 40, 3) := by decide +kernel
theorem dX6_exception_75 : decode cX6_exception 75 = .ok (.aload_n 0, 1) := by decide +kernel
theorem dX6_exception_76 : decode cX6_exception 76 = .ok (.iload 5, 2) := by decide +kernel
theorem dX6_exception_78 : decode cX6_exception 78 = .ok (.iconst 0, 1) := by decide +kernel
theorem dX6_exception_79 : decode cX6_exception 79 = .ok (.iload_n 1, 1) := by decide +kernel
theorem dX6_exception_80 : decode cX6_exception 80 = .ok (.invokevirtual 232, 3) := by decide +kernel
theorem dX6_exception_83 : decode cX6_exception 83 = .ok (.ifCond .eq 29, 3) := by decide +kernel
theorem dX6_exception_86 : decode cX6_exception 86 = .ok (.aload_n 0, 1) := by decide +kernel
theorem dX6_exception_87 : decode cX6_exception 87 = .ok (.iload 5, 2) := by decide +kernel
theorem dX6_exception_89 : decode cX6_exception 89 = .ok (.iconst 1, 1) := by decide +kernel
theorem dX6_exception_90 : decode cX6_exception 90 = .ok (.iload_n 2, 1) := by decide +kernel
theorem dX6_exception_91 : decode cX6_exception 91 = .ok (.invokevirtual 232, 3) := by decide +kernel
theorem dX6_exception_94 : decode cX6_exception 94 = .ok (.ifCond .eq 18, 3) := by decide +kernel
theorem dX6_exception_97 : decode cX6_exception 97 = .ok (.aload_n 0, 1) := by decide +kernel
theorem dX6_exception_98 : decode cX6_exception 98 = .ok (.iload 5, 2) := by decide +kernel
theorem dX6_exception_100 : decode cX6_exception 100 = .ok (.iconst 2, 1) := by decide +kernel
theorem dX6_exception_101 : decode cX6_exception 101 = .ok (.iload_n 3, 1) := by decide +kernel
theorem dX6_exception_102 : decode cX6_exception 102 = .ok (.invokevirtual 232, 3) := by decide +kernel
theorem dX6_exception_105 : decode cX6_exception 105 = .ok (.ifCond .eq 7, 3) := by decide +kernel
theorem dX6_exception_108 : decode cX6_exception 108 = .ok (.iconst 1, 1) := by decide +kernel
theorem dX6_exception_109 : decode cX6_exception 109 = .ok (.goto 4, 3) := by decide +kernel
theorem dX6_exception_112 : decode cX6_exception 112 = .ok (.iconst 0, 1) := by decide +kernel
theorem dX6_exception_113 : decode cX6_exception 113 = .ok (.istore 6, 2) := by decide +kernel
theorem dX6_exception_115 : decode cX6_exception 115 = .ok (.iload 6, 2) := by decide +kernel
theorem dX6_exception_117 : decode cX6_exception 117 = .ok (.ifCond .eq 29, 3) := by decide +kernel
theorem dX6_exception_120 : decode cX6_exception 120 = .ok (.iload 4, 2) := by decide +kernel
theorem dX6_exception_122 : decode cX6_exception 122 = .ok (.iconst (-1), 1) := by decide +kernel
theorem dX6_exception_123 : decode cX6_exception 123 = .ok (.if_icmp .eq 18, 3) := by decide +kernel
theorem dX6_exception_126 : decode cX6_exception 126 = .ok (.aload_n 0, 1) := by decide +kernel
theorem dX6_exception_127 : decode cX6_exception 127 = .ok (.iload 5, 2) := by decide +kernel
theorem dX6_exception_129 : decode cX6_exception 129 = .ok (.invokevirtual 235, 3) := by decide +kernel
theorem dX6_exception_132 : decode cX6_exception 132 = .ok (.aload_n 0, 1) := by decide +kernel
theorem dX6_exception_133 : decode cX6_exception 133 = .ok (.iload 4, 2) := by decide +kernel
theorem dX6_exception_135 : decode cX6_exception 135 = .ok (.invokevirtual 235, 3) := by decide +kernel
theorem dX6_exception_138 : decode cX6_exception 138 = .ok (.if_icmp .lt 8, 3) := by decide +kernel
theorem dX6_exception_141 : decode cX6_exception 141 = .ok (.iload 5, 2) := by decide +kernel
theorem dX6_exception_143 : decode cX6_exception 143 = .ok (.goto 5, 3) := by decide +kernel
theorem dX6_exception_146 : decode cX6_exception 146 = .ok (.iload 4, 2) := by decide +kernel
theorem dX6_exception_148 : decode cX6_exception 148 = .ok (.istore 4, 2) := by decide +kernel
theorem dX6_exception_150 : decode cX6_exception 150 = .ok (.iinc 5 1, 3) := by decide +kernel
theorem dX6_exception_153 : decode cX6_exception 153 = .ok (.goto (-117), 3) := by decide +kernel
theorem dX6_exception_156 : decode cX6_exception 156 = .ok (.iload 4, 2) := by decide +kernel
theorem dX6_exception_158 : decode cX6_exception 158 = .ok (.iconst 1, 1) := by decide +kernel
theorem dX6_exception_159 : decode cX6_exception 159 = .ok (.iadd, 1) := by decide +kernel
theorem dX6_exception_160 : decode cX6_exception 160 = .ok (.ireturn, 1) := by decide +kernel
theorem dX6_row_0 : decode cX6_row 0 = .ok (.aload_n 0, 1) := by decide +kernel
theorem dX6_row_1 : decode cX6_row 1 = .ok (.iload_n 1, 1) := by decide +kernel
theorem dX6_row_2 : decode cX6_row 2 = .ok (.iconst 1, 1) := by decide +kernel
theorem dX6_row_3 : decode cX6_row 3 = .ok (.if_icmp .lt 20, 3) := by decide +kernel
theorem dX6_row_6 : decode cX6_row 6 = .ok (.iload_n 1, 1) := by decide +kernel
theorem dX6_row_7 : decode cX6_row 7 = .ok (.aload_n 0, 1) := by decide +kernel
theorem dX6_row_8 : decode cX6_row 8 = .ok (.getfield 205, 3) := by decide +kernel
theorem dX6_row_11 : decode cX6_row 11 = .ok (.if_icmp .gt 12, 3) := by decide +kernel
theorem dX6_row_14 : decode cX6_row 14 = .ok (.iload_n 2, 1) := by decide +kernel
theorem dX6_row_15 : decode cX6_row 15 = .ok (.ifCond .lt 8, 3) := by decide +kernel
theorem dX6_row_18 : decode cX6_row 18 = .ok (.iload_n 2, 1) := by decide +kernel
theorem dX6_row_19 : decode cX6_row 19 = .ok (.iconst 1, 1) := by decide +kernel
theorem dX6_row_20 : decode cX6_row 20 = .ok (.if_icmp .le 7, 3) := by decide +kernel
theorem dX6_row_23 : decode cX6_row 23 = .ok (.iconst 1, 1) := by decide +kernel
theorem dX6_row_24 : decode cX6_row 24 = .ok (.goto 4, 3) := by decide +kernel
theorem dX6_row_27 : decode cX6_row 27 = .ok (.iconst 0, 1) := by decide +kernel
theorem dX6_row_28 : decode cX6_row 28 = .ok (.putfield 75, 3) := by decide +kernel
theorem dX6_row_31 : decode cX6_row 31 = .ok (.aload_n 0, 1) := by decide +kernel
theorem dX6_row_32 : decode cX6_row 32 = .ok (.getfield 75, 3) := by decide +kernel
theorem dX6_row_35 : decode cX6_row 35 = .ok (.ifCond .le 5, 3) := by decide +kernel
theorem dX6_row_38 : decode cX6_row 38 = .ok (.iconst 0, 1) := by decide +kernel
theorem dX6_row_39 : decode cX6_row 39 = .ok (.ireturn, 1) := by decide +kernel
theorem dX6_row_40 : decode cX6_row 40 = .ok (.aload_n 0, 1) := by decide +kernel
theorem dX6_row_41 : decode cX6_row 41 = .ok (.getfield 19, 3) := by decide +kernel
theorem dX6_row_44 : decode cX6_row 44 = .ok (.iload_n 1, 1) := by decide +kernel
theorem dX6_row_45 : decode cX6_row 45 = .ok (.iconst 1, 1) := by decide +kernel
theorem dX6_row_46 : decode cX6_row 46 = .ok (.isub, 1) := by decide +kernel
theorem dX6_row_47 : decode cX6_row 47 = .ok (.iaload, 1) := by decide +kernel
theorem dX6_row_48 : decode cX6_row 48 = .ok (.istore_n 3, 1) := by decide +kernel
theorem dX6_row_49 : decode cX6_row 49 = .ok (.iload_n 2, 1) := by decide +kernel
theorem dX6_row_50 : decode cX6_row 50 = .ok (.ifCond .ne 7, 3) := by decide +kernel
theorem dX6_row_53 : decode cX6_row 53 = .ok (.iload_n 3, 1) := by decide +kernel
theorem dX6_row_54 : decode cX6_row 54 = .ok (.goto 20, 3) := by decide +kernel
theorem dX6_row_57 : decode cX6_row 57 = .ok (.iload_n 3, 1) := by decide +kernel
theorem dX6_row_58 : decode cX6_row 58 = .ok (.iconst 5, 1) := by decide +kernel
theorem dX6_row_59 : decode cX6_row 59 = .ok (.if_icmp .lt 14, 3) := by decide +kernel
theorem dX6_row_62 : decode cX6_row 62 = .ok (.aload_n 0, 1) := by decide +kernel
theorem dX6_row_63 : decode cX6_row 63 = .ok (.getfield 29, 3) := by decide +kernel
theorem dX6_row_66 : decode cX6_row 66 = .ok (.iload_n 1, 1) := by decide +kernel
theorem dX6_row_67 : decode cX6_row 67 = .ok (.iconst 1, 1) := by decide +kernel
theorem dX6_row_68 : decode cX6_row 68 = .ok (.isub, 1) := by decide +kernel
theorem dX6_row_69 : decode cX6_row 69 = .ok (.iaload, 1) := by decide +kernel
theorem dX6_row_70 : decode cX6_row 70 = .ok (.goto 4, 3) := by decide +kernel
theorem dX6_row_73 : decode cX6_row 73 = .ok (.iconst 0, 1) := by decide +kernel
theorem dX6_row_74 : decode cX6_row 74 = .ok (.ireturn, 1) := by decide +kernel
theorem dX6_load_0 : decode cX6_load 0 = .ok (.aload_n 0, 1) := by decide +kernel
theorem dX6_load_1 : decode cX6_load 1 = .ok (.iload_n 1, 1) := by decide +kernel
theorem dX6_load_2 : decode cX6_load 2 = .ok (.ifCond .lt 18, 3) := by decide +kernel
theorem dX6_load_5 : decode cX6_load 5 = .ok (.iload_n 1, 1) := by decide +kernel
theorem dX6_load_6 : decode cX6_load 6 = .ok (.bipush 40, 2) := by decide +kernel
theorem dX6_load_8 : decode cX6_load 8 = .ok (.if_icmp .ge 12, 3) := by decide +kernel
theorem dX6_load_11 : decode cX6_load 11 = .ok (.iload_n 2, 1) := by decide +kernel
theorem dX6_load_12 : decode cX6_load 12 = .ok (.ifCond .lt 8, 3) := by decide +kernel
theorem dX6_load_15 : decode cX6_load 15 = .ok (.iload_n 2, 1) := by decide +kernel
theorem dX6_load_16 : decode cX6_load 16 = .ok (.iconst 1, 1) := by decide +kernel
theorem dX6_load_17 : decode cX6_load 17 = .ok (.if_icmp .le 7, 3) := by decide +kernel
theorem dX6_load_20 : decode cX6_load 20 = .ok (.iconst 1, 1) := by decide +kernel
theorem dX6_load_21 : decode cX6_load 21 = .ok (.goto 4, 3) := by decide +kernel
theorem dX6_load_24 : decode cX6_load 24 = .ok (.iconst 0, 1) := by decide +kernel
theorem dX6_load_25 : decode cX6_load 25 = .ok (.putfield 75, 3) := by decide +kernel
theorem dX6_load_28 : decode cX6_load 28 = .ok (.iconst (-1), 1) := by decide +kernel
theorem dX6_load_29 : decode cX6_load 29 = .ok (.istore_n 3, 1) := by decide +kernel
theorem dX6_load_30 : decode cX6_load 30 = .ok (.iconst 0, 1) := by decide +kernel
theorem dX6_load_31 : decode cX6_load 31 = .ok (.istore 4, 2) := by decide +kernel
theorem dX6_load_33 : decode cX6_load 33 = .ok (.iload 4, 2) := by decide +kernel
theorem dX6_load_35 : decode cX6_load 35 = .ok (.aload_n 0, 1) := by decide +kernel
theorem dX6_load_36 : decode cX6_load 36 = .ok (.getfield 205, 3) := by decide +kernel
theorem dX6_load_39 : decode cX6_load 39 = .ok (.if_icmp .ge 53, 3) := by decide +kernel
theorem dX6_load_42 : decode cX6_load 42 = .ok (.aload_n 0, 1) := by decide +kernel
theorem dX6_load_43 : decode cX6_load 43 = .ok (.getfield 75, 3) := by decide +kernel
theorem dX6_load_46 : decode cX6_load 46 = .ok (.ifCond .ne 46, 3) := by decide +kernel
theorem dX6_load_49 : decode cX6_load 49 = .ok (.aload_n 0, 1) := by decide +kernel
theorem dX6_load_50 : decode cX6_load 50 = .ok (.getfield 19, 3) := by decide +kernel
theorem dX6_load_53 : decode cX6_load 53 = .ok (.iload 4, 2) := by decide +kernel
theorem dX6_load_55 : decode cX6_load 55 = .ok (.iaload, 1) := by decide +kernel
theorem dX6_load_56 : decode cX6_load 56 = .ok (.bipush 8, 2) := by decide +kernel
theorem dX6_load_58 : decode cX6_load 58 = .ok (.iload_n 2, 1) := by decide +kernel
theorem dX6_load_59 : decode cX6_load 59 = .ok (.iadd, 1) := by decide +kernel
theorem dX6_load_60 : decode cX6_load 60 = .ok (.if_icmp .ne 24, 3) := by decide +kernel
theorem dX6_load_63 : decode cX6_load 63 = .ok (.aload_n 0, 1) := by decide +kernel
theorem dX6_load_64 : decode cX6_load 64 = .ok (.iload 4, 2) := by decide +kernel
theorem dX6_load_66 : decode cX6_load 66 = .ok (.iconst 0, 1) := by decide +kernel
theorem dX6_load_67 : decode cX6_load 67 = .ok (.iload_n 1, 1) := by decide +kernel
theorem dX6_load_68 : decode cX6_load 68 = .ok (.invokevirtual 211, 3) := by decide +kernel
theorem dX6_load_71 : decode cX6_load 71 = .ok (.ifCond .eq 13, 3) := by decide +kernel
theorem dX6_load_74 : decode cX6_load 74 = .ok (.aload_n 0, 1) := by decide +kernel
theorem dX6_load_75 : decode cX6_load 75 = .ok (.getfield 29, 3) := by decide +kernel
theorem dX6_load_78 : decode cX6_load 78 = .ok (.iload 4, 2) := by decide +kernel
theorem dX6_load_80 : decode cX6_load 80 = .ok (.iaload, 1) := by decide +kernel
theorem dX6_load_81 : decode cX6_load 81 = .ok (.goto 4, 3) := by decide +kernel
theorem dX6_load_84 : decode cX6_load 84 = .ok (.iload_n 3, 1) := by decide +kernel
theorem dX6_load_85 : decode cX6_load 85 = .ok (.istore_n 3, 1) := by decide +kernel
theorem dX6_load_86 : decode cX6_load 86 = .ok (.iinc 4 1, 3) := by decide +kernel
theorem dX6_load_89 : decode cX6_load 89 = .ok (.goto (-56), 3) := by decide +kernel
theorem dX6_load_92 : decode cX6_load 92 = .ok (.aload_n 0, 1) := by decide +kernel
theorem dX6_load_93 : decode cX6_load 93 = .ok (.getfield 75, 3) := by decide +kernel
theorem dX6_load_96 : decode cX6_load 96 = .ok (.ifCond .le 7, 3) := by decide +kernel
theorem dX6_load_99 : decode cX6_load 99 = .ok (.iconst 0, 1) := by decide +kernel
theorem dX6_load_100 : decode cX6_load 100 = .ok (.goto 4, 3) := by decide +kernel
theorem dX6_load_103 : decode cX6_load 103 = .ok (.iload_n 3, 1) := by decide +kernel
theorem dX6_load_104 : decode cX6_load 104 = .ok (.ireturn, 1) := by decide +kernel
theorem dX6_isUnmatched_0 : decode cX6_isUnmatched 0 = .ok (.iconst 0, 1) := by decide +kernel
theorem dX6_isUnmatched_1 : decode cX6_isUnmatched 1 = .ok (.istore_n 2, 1) := by decide +kernel
theorem dX6_isUnmatched_2 : decode cX6_isUnmatched 2 = .ok (.iconst 0, 1) := by decide +kernel
theorem dX6_isUnmatched_3 : decode cX6_isUnmatched 3 = .ok (.istore_n 3, 1) := by decide +kernel
theorem dX6_isUnmatched_4 : decode cX6_isUnmatched 4 = .ok (.iload_n 3, 1) := by decide +kernel
theorem dX6_isUnmatched_5 : decode cX6_isUnmatched 5 = .ok (.iconst 3, 1) := by decide +kernel
theorem dX6_isUnmatched_6 : decode cX6_isUnmatched 6 = .ok (.if_icmp .ge 41, 3) := by decide +kernel
theorem dX6_isUnmatched_9 : decode cX6_isUnmatched 9 = .ok (.iload_n 2, 1) := by decide +kernel
theorem dX6_isUnmatched_10 : decode cX6_isUnmatched 10 = .ok (.ifCond .ne 25, 3) := by decide +kernel
theorem dX6_isUnmatched_13 : decode cX6_isUnmatched 13 = .ok (.aload_n 0, 1) := by decide +kernel
theorem dX6_isUnmatched_14 : decode cX6_isUnmatched 14 = .ok (.getfield 41, 3) := by decide +kernel
theorem dX6_isUnmatched_17 : decode cX6_isUnmatched 17 = .ok (.iconst 3, 1) := by decide +kernel
theorem dX6_isUnmatched_18 : decode cX6_isUnmatched 18 = .ok (.iload_n 1, 1) := by decide +kernel
theorem dX6_isUnmatched_19 : decode cX6_isUnmatched 19 = .ok (.imul, 1) := by decide +kernel
theorem dX6_isUnmatched_20 : decode cX6_isUnmatched 20 = .ok (.iload_n 3, 1) := by decide +kernel
theorem dX6_isUnmatched_21 : decode cX6_isUnmatched 21 = .ok (.iadd, 1) := by decide +kernel
theorem dX6_isUnmatched_22 : decode cX6_isUnmatched 22 = .ok (.iaload, 1) := by decide +kernel
theorem dX6_isUnmatched_23 : decode cX6_isUnmatched 23 = .ok (.ifCond .le 16, 3) := by decide +kernel
theorem dX6_isUnmatched_26 : decode cX6_isUnmatched 26 = .ok (.aload_n 0, 1) := by decide +kernel
theorem dX6_isUnmatched_27 : decode cX6_isUnmatched 27 = .ok (.iload_n 1, 1) := by decide +kernel
theorem dX6_isUnmatched_28 : decode cX6_isUnmatched 28 = .ok (.iload_n 3, 1) := by decide +kernel
theorem dX6_isUnmatched_29 : decode cX6_isUnmatched 29 = .ok (.invokevirtual 218, 3) := by decide +kernel
theorem dX6_isUnmatched_32 : decode cX6_isUnmatched 32 = .ok (.ifCond .ne 7, 3) := by decide +kernel
theorem dX6_isUnmatched_35 : decode cX6_isUnmatched 35 = .ok (.iconst 1, 1) := by decide +kernel
theorem dX6_isUnmatched_36 : decode cX6_isUnmatched 36 = .ok (.goto 4, 3) := by decide +kernel
theorem dX6_isUnmatched_39 : decode cX6_isUnmatched 39 = .ok (.iconst 0, 1) := by decide +kernel
theorem dX6_isUnmatched_40 : decode cX6_isUnmatched 40 = .ok (.istore_n 2, 1) := by decide +kernel
theorem dX6_isUnmatched_41 : decode cX6_isUnmatched 41 = .ok (.iinc 3 1, 3) := by decide +kernel
theorem dX6_isUnmatched_44 : decode cX6_isUnmatched 44 = .ok (.goto (-40), 3) := by decide +kernel
theorem dX6_isUnmatched_47 : decode cX6_isUnmatched 47 = .ok (.iload_n 2, 1) := by decide +kernel
theorem dX6_isUnmatched_48 : decode cX6_isUnmatched 48 = .ok (.ireturn, 1) := by decide +kernel
theorem dX6_unmatched_0 : decode cX6_unmatched 0 = .ok (.aload_n 0, 1) := by decide +kernel
theorem dX6_unmatched_1 : decode cX6_unmatched 1 = .ok (.iload_n 1, 1) := by decide +kernel
theorem dX6_unmatched_2 : decode cX6_unmatched 2 = .ok (.ifCond .ge 7, 3) := by decide +kernel
theorem dX6_unmatched_5 : decode cX6_unmatched 5 = .ok (.iconst 1, 1) := by decide +kernel
theorem dX6_unmatched_6 : decode cX6_unmatched 6 = .ok (.goto 4, 3) := by decide +kernel
theorem dX6_unmatched_9 : decode cX6_unmatched 9 = .ok (.iconst 0, 1) := by decide +kernel
theorem dX6_unmatched_10 : decode cX6_unmatched 10 = .ok (.putfield 75, 3) := by decide +kernel
theorem dX6_unmatched_13 : decode cX6_unmatched 13 = .ok (.iload_n 1, 1) := by decide +kernel
theorem dX6_unmatched_14 : decode cX6_unmatched 14 = .ok (.istore_n 2, 1) := by decide +kernel
theorem dX6_unmatched_15 : decode cX6_unmatched 15 = .ok (.iconst 0, 1) := by decide +kernel
theorem dX6_unmatched_16 : decode cX6_unmatched 16 = .ok (.istore_n 3, 1) := by decide +kernel
theorem dX6_unmatched_17 : decode cX6_unmatched 17 = .ok (.iload_n 3, 1) := by decide +kernel
theorem dX6_unmatched_18 : decode cX6_unmatched 18 = .ok (.aload_n 0, 1) := by decide +kernel
theorem dX6_unmatched_19 : decode cX6_unmatched 19 = .ok (.getfield 205, 3) := by decide +kernel
theorem dX6_unmatched_22 : decode cX6_unmatched 22 = .ok (.if_icmp .ge 35, 3) := by decide +kernel
theorem dX6_unmatched_25 : decode cX6_unmatched 25 = .ok (.aload_n 0, 1) := by decide +kernel
theorem dX6_unmatched_26 : decode cX6_unmatched 26 = .ok (.getfield 75, 3) := by decide +kernel
theorem dX6_unmatched_29 : decode cX6_unmatched 29 = .ok (.ifCond .ne 28, 3) := by decide +kernel
theorem dX6_unmatched_32 : decode cX6_unmatched 32 = .ok (.aload_n 0, 1) := by decide +kernel
theorem dX6_unmatched_33 : decode cX6_unmatched 33 = .ok (.iload_n 3, 1) := by decide +kernel
theorem dX6_unmatched_34 : decode cX6_unmatched 34 = .ok (.invokevirtual 238, 3) := by decide +kernel
theorem dX6_unmatched_37 : decode cX6_unmatched 37 = .ok (.ifCond .eq 14, 3) := by decide +kernel
theorem dX6_unmatched_40 : decode cX6_unmatched 40 = .ok (.iload_n 2, 1) := by decide +kernel
theorem dX6_unmatched_41 : decode cX6_unmatched 41 = .ok (.ifCond .ne 7, 3) := by decide +kernel
theorem dX6_unmatched_44 : decode cX6_unmatched 44 = .ok (.iload_n 3, 1) := by decide +kernel
theorem dX6_unmatched_45 : decode cX6_unmatched 45 = .ok (.iconst 1, 1) := by decide +kernel
theorem dX6_unmatched_46 : decode cX6_unmatched 46 = .ok (.iadd, 1) := by decide +kernel
theorem dX6_unmatched_47 : decode cX6_unmatched 47 = .ok (.ireturn, 1) := by decide +kernel
theorem dX6_unmatched_48 : decode cX6_unmatched 48 = .ok (.iinc 2 (-1), 3) := by decide +kernel
theorem dX6_unmatched_51 : decode cX6_unmatched 51 = .ok (.iinc 3 1, 3) := by decide +kernel
theorem dX6_unmatched_54 : decode cX6_unmatched 54 = .ok (.goto (-37), 3) := by decide +kernel
theorem dX6_unmatched_57 : decode cX6_unmatched 57 = .ok (.aload_n 0, 1) := by decide +kernel
theorem dX6_unmatched_58 : decode cX6_unmatched 58 = .ok (.getfield 75, 3) := by decide +kernel
theorem dX6_unmatched_61 : decode cX6_unmatched 61 = .ok (.ifCond .le 7, 3) := by decide +kernel
theorem dX6_unmatched_64 : decode cX6_unmatched 64 = .ok (.iconst 0, 1) := by decide +kernel
theorem dX6_unmatched_65 : decode cX6_unmatched 65 = .ok (.goto 4, 3) := by decide +kernel
theorem dX6_unmatched_68 : decode cX6_unmatched 68 = .ok (.iconst (-1), 1) := by decide +kernel
theorem dX6_unmatched_69 : decode cX6_unmatched 69 = .ok (.ireturn, 1) := by decide +kernel
theorem dX6_areClashing_0 : decode cX6_areClashing 0 = .ok (.aload_n 0, 1) := by decide +kernel
theorem dX6_areClashing_1 : decode cX6_areClashing 1 = .ok (.getfield 19, 3) := by decide +kernel
theorem dX6_areClashing_4 : decode cX6_areClashing 4 = .ok (.iload_n 1, 1) := by decide +kernel
theorem dX6_areClashing_5 : decode cX6_areClashing 5 = .ok (.iaload, 1) := by decide +kernel
theorem dX6_areClashing_6 : decode cX6_areClashing 6 = .ok (.iconst 2, 1) := by decide +kernel
theorem dX6_areClashing_7 : decode cX6_areClashing 7 = .ok (.if_icmp .gt 13, 3) := by decide +kernel
theorem dX6_areClashing_10 : decode cX6_areClashing 10 = .ok (.aload_n 0, 1) := by decide +kernel
theorem dX6_areClashing_11 : decode cX6_areClashing 11 = .ok (.getfield 19, 3) := by decide +kernel
theorem dX6_areClashing_14 : decode cX6_areClashing 14 = .ok (.iload_n 2, 1) := by decide +kernel
theorem dX6_areClashing_15 : decode cX6_areClashing 15 = .ok (.iaload, 1) := by decide +kernel
theorem dX6_areClashing_16 : decode cX6_areClashing 16 = .ok (.iconst 2, 1) := by decide +kernel
theorem dX6_areClashing_17 : decode cX6_areClashing 17 = .ok (.if_icmp .le 44, 3) := by decide +kernel
theorem dX6_areClashing_20 : decode cX6_areClashing 20 = .ok (.aload_n 0, 1) := by decide +kernel
theorem dX6_areClashing_21 : decode cX6_areClashing 21 = .ok (.getfield 19, 3) := by decide +kernel
theorem dX6_areClashing_24 : decode cX6_areClashing 24 = .ok (.iload_n 1, 1) := by decide +kernel
theorem dX6_areClashing_25 : decode cX6_areClashing 25 = .ok (.iaload, 1) := by decide +kernel
theorem dX6_areClashing_26 : decode cX6_areClashing 26 = .ok (.bipush 8, 2) := by decide +kernel
theorem dX6_areClashing_28 : decode cX6_areClashing 28 = .ok (.if_icmp .lt 37, 3) := by decide +kernel
theorem dX6_areClashing_31 : decode cX6_areClashing 31 = .ok (.aload_n 0, 1) := by decide +kernel
theorem dX6_areClashing_32 : decode cX6_areClashing 32 = .ok (.getfield 19, 3) := by decide +kernel
theorem dX6_areClashing_35 : decode cX6_areClashing 35 = .ok (.iload_n 1, 1) := by decide +kernel
theorem dX6_areClashing_36 : decode cX6_areClashing 36 = .ok (.iaload, 1) := by decide +kernel
theorem dX6_areClashing_37 : decode cX6_areClashing 37 = .ok (.aload_n 0, 1) := by decide +kernel
theorem dX6_areClashing_38 : decode cX6_areClashing 38 = .ok (.getfield 19, 3) := by decide +kernel
theorem dX6_areClashing_41 : decode cX6_areClashing 41 = .ok (.iload_n 2, 1) := by decide +kernel
theorem dX6_areClashing_42 : decode cX6_areClashing 42 = .ok (.iaload, 1) := by decide +kernel
theorem dX6_areClashing_43 : decode cX6_areClashing 43 = .ok (.if_icmp .ne 22, 3) := by decide +kernel
theorem dX6_areClashing_46 : decode cX6_areClashing 46 = .ok (.aload_n 0, 1) := by decide +kernel
theorem dX6_areClashing_47 : decode cX6_areClashing 47 = .ok (.getfield 29, 3) := by decide +kernel
theorem dX6_areClashing_50 : decode cX6_areClashing 50 = .ok (.iload_n 1, 1) := by decide +kernel
theorem dX6_areClashing_51 : decode cX6_areClashing 51 = .ok (.iaload, 1) := by decide +kernel
theorem dX6_areClashing_52 : decode cX6_areClashing 52 = .ok (.aload_n 0, 1) := by decide +kernel
theorem dX6_areClashing_53 : decode cX6_areClashing 53 = .ok (.getfield 29, 3) := by decide +kernel
theorem dX6_areClashing_56 : decode cX6_areClashing 56 = .ok (.iload_n 2, 1) := by decide +kernel
theorem dX6_areClashing_57 : decode cX6_areClashing 57 = .ok (.iaload, 1) := by decide +kernel
theorem dX6_areClashing_58 : decode cX6_areClashing 58 = .ok (.if_icmp .eq 7, 3) := by decide +kernel
theorem dX6_areClashing_61 : decode cX6_areClashing 61 = .ok (.iconst 1, 1) := by decide +kernel
theorem dX6_areClashing_62 : decode cX6_areClashing 62 = .ok (.goto 4, 3) := by decide +kernel
theorem dX6_areClashing_65 : decode cX6_areClashing 65 = .ok (.iconst 0, 1) := by decide +kernel
theorem dX6_areClashing_66 : decode cX6_areClashing 66 = .ok (.istore_n 3, 1) := by decide +kernel
theorem dX6_areClashing_67 : decode cX6_areClashing 67 = .ok (.iconst 0, 1) := by decide +kernel
theorem dX6_areClashing_68 : decode cX6_areClashing 68 = .ok (.istore 4, 2) := by decide +kernel
theorem dX6_areClashing_70 : decode cX6_areClashing 70 = .ok (.iconst 0, 1) := by decide +kernel
theorem dX6_areClashing_71 : decode cX6_areClashing 71 = .ok (.istore 5, 2) := by decide +kernel
theorem dX6_areClashing_73 : decode cX6_areClashing 73 = .ok (.iload 5, 2) := by decide +kernel
theorem dX6_areClashing_75 : decode cX6_areClashing 75 = .ok (.bipush 40, 2) := by decide +kernel
theorem dX6_areClashing_77 : decode cX6_areClashing 77 = .ok (.if_icmp .ge 47, 3) := by decide +kernel
theorem dX6_areClashing_80 : decode cX6_areClashing 80 = .ok (.iload_n 3, 1) := by decide +kernel
theorem dX6_areClashing_81 : decode cX6_areClashing 81 = .ok (.ifCond .eq 43, 3) := by decide +kernel
theorem dX6_areClashing_84 : decode cX6_areClashing 84 = .ok (.iload 4, 2) := by decide +kernel
theorem dX6_areClashing_86 : decode cX6_areClashing 86 = .ok (.ifCond .ne 25, 3) := by decide +kernel
theorem dX6_areClashing_89 : decode cX6_areClashing 89 = .ok (.aload_n 0, 1) := by decide +kernel
theorem dX6_areClashing_90 : decode cX6_areClashing 90 = .ok (.iload_n 1, 1) := by decide +kernel
theorem dX6_areClashing_91 : decode cX6_areClashing 91 = .ok (.iconst 0, 1) := by decide +kernel
theorem dX6_areClashing_92 : decode cX6_areClashing 92 = .ok (.iload 5, 2) := by decide +kernel
theorem dX6_areClashing_94 : decode cX6_areClashing 94 = .ok (.invokevirtual 211, 3) := by decide +kernel
theorem dX6_areClashing_97 : decode cX6_areClashing 97 = .ok (.ifCond .eq 18, 3) := by decide +kernel
theorem dX6_areClashing_100 : decode cX6_areClashing 100 = .ok (.aload_n 0, 1) := by decide +kernel
theorem dX6_areClashing_101 : decode cX6_areClashing 101 = .ok (.iload_n 2, 1) := by decide +kernel
theorem dX6_areClashing_102 : decode cX6_areClashing 102 = .ok (.iconst 0, 1) := by decide +kernel
theorem dX6_areClashing_103 : decode cX6_areClashing 103 = .ok (.iload 5, 2) := by decide +kernel
theorem dX6_areClashing_105 : decode cX6_areClashing 105 = .ok (.invokevirtual 211, 3) := by decide +kernel
theorem dX6_areClashing_108 : decode cX6_areClashing 108 = .ok (.ifCond .eq 7, 3) := by decide +kernel
theorem dX6_areClashing_111 : decode cX6_areClashing 111 = .ok (.iconst 1, 1) := by decide +kernel
theorem dX6_areClashing_112 : decode cX6_areClashing 112 = .ok (.goto 4, 3) := by decide +kernel
theorem dX6_areClashing_115 : decode cX6_areClashing 115 = .ok (.iconst 0, 1) := by decide +kernel
theorem dX6_areClashing_116 : decode cX6_areClashing 116 = .ok (.istore 4, 2) := by decide +kernel
theorem dX6_areClashing_118 : decode cX6_areClashing 118 = .ok (.iinc 5 1, 3) := by decide +kernel
theorem dX6_areClashing_121 : decode cX6_areClashing 121 = .ok (.goto (-48), 3) := by decide +kernel
theorem dX6_areClashing_124 : decode cX6_areClashing 124 = .ok (.iload 4, 2) := by decide +kernel
theorem dX6_areClashing_126 : decode cX6_areClashing 126 = .ok (.ireturn, 1) := by decide +kernel
theorem dX6_clash_0 : decode cX6_clash 0 = .ok (.aload_n 0, 1) := by decide +kernel
theorem dX6_clash_1 : decode cX6_clash 1 = .ok (.iload_n 1, 1) := by decide +kernel
theorem dX6_clash_2 : decode cX6_clash 2 = .ok (.ifCond .lt 12, 3) := by decide +kernel
theorem dX6_clash_5 : decode cX6_clash 5 = .ok (.iload_n 2, 1) := by decide +kernel
theorem dX6_clash_6 : decode cX6_clash 6 = .ok (.ifCond .lt 8, 3) := by decide +kernel
theorem dX6_clash_9 : decode cX6_clash 9 = .ok (.iload_n 2, 1) := by decide +kernel
theorem dX6_clash_10 : decode cX6_clash 10 = .ok (.iconst 1, 1) := by decide +kernel
theorem dX6_clash_11 : decode cX6_clash 11 = .ok (.if_icmp .le 7, 3) := by decide +kernel
theorem dX6_clash_14 : decode cX6_clash 14 = .ok (.iconst 1, 1) := by decide +kernel
theorem dX6_clash_15 : decode cX6_clash 15 = .ok (.goto 4, 3) := by decide +kernel
theorem dX6_clash_18 : decode cX6_clash 18 = .ok (.iconst 0, 1) := by decide +kernel
theorem dX6_clash_19 : decode cX6_clash 19 = .ok (.putfield 75, 3) := by decide +kernel
theorem dX6_clash_22 : decode cX6_clash 22 = .ok (.iload_n 1, 1) := by decide +kernel
theorem dX6_clash_23 : decode cX6_clash 23 = .ok (.istore_n 3, 1) := by decide +kernel
theorem dX6_clash_24 : decode cX6_clash 24 = .ok (.iconst 0, 1) := by decide +kernel
theorem dX6_clash_25 : decode cX6_clash 25 = .ok (.istore 4, 2) := by decide +kernel
theorem dX6_clash_27 : decode cX6_clash 27 = .ok (.iload 4, 2) := by decide +kernel
theorem dX6_clash_29 : decode cX6_clash 29 = .ok (.aload_n 0, 1) := by decide +kernel
theorem dX6_clash_30 : decode cX6_clash 30 = .ok (.getfield 205, 3) := by decide +kernel
theorem dX6_clash_33 : decode cX6_clash 33 = .ok (.if_icmp .ge 71, 3) := by decide +kernel
theorem dX6_clash_36 : decode cX6_clash 36 = .ok (.aload_n 0, 1) := by decide +kernel
theorem dX6_clash_37 : decode cX6_clash 37 = .ok (.getfield 75, 3) := by decide +kernel
theorem dX6_clash_40 : decode cX6_clash 40 = .ok (.ifCond .ne 64, 3) := by decide +kernel
theorem dX6_clash_43 : decode cX6_clash 43 = .ok (.iload 4, 2) := by decide +kernel
theorem dX6_clash_45 : decode cX6_clash 45 = .ok (.iconst 1, 1) := by decide +kernel
theorem dX6_clash_46 : decode cX6_clash 46 = .ok (.iadd, 1) := by decide +kernel
theorem dX6_clash_47 : decode cX6_clash 47 = .ok (.istore 5, 2) := by decide +kernel
theorem dX6_clash_49 : decode cX6_clash 49 = .ok (.iload 5, 2) := by decide +kernel
theorem dX6_clash_51 : decode cX6_clash 51 = .ok (.aload_n 0, 1) := by decide +kernel
theorem dX6_clash_52 : decode cX6_clash 52 = .ok (.getfield 205, 3) := by decide +kernel
theorem dX6_clash_55 : decode cX6_clash 55 = .ok (.if_icmp .ge 43, 3) := by decide +kernel
theorem dX6_clash_58 : decode cX6_clash 58 = .ok (.aload_n 0, 1) := by decide +kernel
theorem dX6_clash_59 : decode cX6_clash 59 = .ok (.iload 4, 2) := by decide +kernel
theorem dX6_clash_61 : decode cX6_clash 61 = .ok (.iload 5, 2) := by decide +kernel
theorem dX6_clash_63 : decode cX6_clash 63 = .ok (.invokevirtual 241, 3) := by decide +kernel
theorem dX6_clash_66 : decode cX6_clash 66 = .ok (.ifCond .eq 26, 3) := by decide +kernel
theorem dX6_clash_69 : decode cX6_clash 69 = .ok (.iload_n 3, 1) := by decide +kernel
theorem dX6_clash_70 : decode cX6_clash 70 = .ok (.ifCond .ne 19, 3) := by decide +kernel
theorem dX6_clash_73 : decode cX6_clash 73 = .ok (.iload_n 2, 1) := by decide +kernel
theorem dX6_clash_74 : decode cX6_clash 74 = .ok (.ifCond .ne 10, 3) := by decide +kernel
theorem dX6_clash_77 : decode cX6_clash 77 = .ok (.iload 4, 2) := by decide +kernel
theorem dX6_clash_79 : decode cX6_clash 79 = .ok (.iconst 1, 1) := by decide +kernel
theorem dX6_clash_80 : decode cX6_clash 80 = .ok (.iadd, 1) := by decide +kernel
theorem dX6_clash_81 : decode cX6_clash 81 = .ok (.goto 7, 3) := by decide +kernel
theorem dX6_clash_84 : decode cX6_clash 84 = .ok (.iload 5, 2) := by decide +kernel
theorem dX6_clash_86 : decode cX6_clash 86 = .ok (.iconst 1, 1) := by decide +kernel
theorem dX6_clash_87 : decode cX6_clash 87 = .ok (.iadd, 1) := by decide +kernel
theorem dX6_clash_88 : decode cX6_clash 88 = .ok (.ireturn, 1) := by decide +kernel
theorem dX6_clash_89 : decode cX6_clash 89 = .ok (.iinc 3 (-1), 3) := by decide +kernel
theorem dX6_clash_92 : decode cX6_clash 92 = .ok (.iinc 5 1, 3) := by decide +kernel
theorem dX6_clash_95 : decode cX6_clash 95 = .ok (.goto (-46), 3) := by decide +kernel
theorem dX6_clash_98 : decode cX6_clash 98 = .ok (.iinc 4 1, 3) := by decide +kernel
theorem dX6_clash_101 : decode cX6_clash 101 = .ok (.goto (-74), 3) := by decide +kernel
theorem dX6_clash_104 : decode cX6_clash 104 = .ok (.aload_n 0, 1) := by decide +kernel
theorem dX6_clash_105 : decode cX6_clash 105 = .ok (.getfield 75, 3) := by decide +kernel
theorem dX6_clash_108 : decode cX6_clash 108 = .ok (.ifCond .le 7, 3) := by decide +kernel
theorem dX6_clash_111 : decode cX6_clash 111 = .ok (.iconst 0, 1) := by decide +kernel
theorem dX6_clash_112 : decode cX6_clash 112 = .ok (.goto 4, 3) := by decide +kernel
theorem dX6_clash_115 : decode cX6_clash 115 = .ok (.iconst (-1), 1) := by decide +kernel
theorem dX6_clash_116 : decode cX6_clash 116 = .ok (.ireturn, 1) := by decide +kernel
theorem dX6_put_0 : decode cX6_put 0 = .ok (.aload_n 0, 1) := by decide +kernel
theorem dX6_put_1 : decode cX6_put 1 = .ok (.aload_n 0, 1) := by decide +kernel
theorem dX6_put_2 : decode cX6_put 2 = .ok (.getfield 244, 3) := by decide +kernel
theorem dX6_put_5 : decode cX6_put 5 = .ok (.aload_n 0, 1) := by decide +kernel
theorem dX6_put_6 : decode cX6_put 6 = .ok (.getfield 247, 3) := by decide +kernel
theorem dX6_put_9 : decode cX6_put 9 = .ok (.if_icmp .ne 7, 3) := by decide +kernel
theorem dX6_put_12 : decode cX6_put 12 = .ok (.iload_n 1, 1) := by decide +kernel
theorem dX6_put_13 : decode cX6_put 13 = .ok (.goto 7, 3) := by decide +kernel
theorem dX6_put_16 : decode cX6_put 16 = .ok (.aload_n 0, 1) := by decide +kernel
theorem dX6_put_17 : decode cX6_put 17 = .ok (.getfield 250, 3) := by decide +kernel
theorem dX6_put_20 : decode cX6_put 20 = .ok (.putfield 250, 3) := by decide +kernel
theorem dX6_put_23 : decode cX6_put 23 = .ok (.aload_n 0, 1) := by decide +kernel
theorem dX6_put_24 : decode cX6_put 24 = .ok (.dup, 1) := by decide +kernel
theorem dX6_put_25 : decode cX6_put 25 = .ok (.getfield 244, 3) := by decide +kernel
theorem dX6_put_28 : decode cX6_put 28 = .ok (.iconst 1, 1) := by decide +kernel
theorem dX6_put_29 : decode cX6_put 29 = .ok (.iadd, 1) := by decide +kernel
theorem dX6_put_30 : decode cX6_put 30 = .ok (.putfield 244, 3) := by decide +kernel
theorem dX6_put_33 : decode cX6_put 33 = .ok (.return_, 1) := by decide +kernel
theorem dX6_putWord_0 : decode cX6_putWord 0 = .ok (.lconst 1, 1) := by decide +kernel
theorem dX6_putWord_1 : decode cX6_putWord 1 = .ok (.lstore_n 3, 1) := by decide +kernel
theorem dX6_putWord_2 : decode cX6_putWord 2 = .ok (.lload_n 1, 1) := by decide +kernel
theorem dX6_putWord_3 : decode cX6_putWord 3 = .ok (.lload_n 3, 1) := by decide +kernel
theorem dX6_putWord_4 : decode cX6_putWord 4 = .ok (.ldiv, 1) := by decide +kernel
theorem dX6_putWord_5 : decode cX6_putWord 5 = .ok (.ldc2_w 253, 3) := by decide +kernel
theorem dX6_putWord_8 : decode cX6_putWord 8 = .ok (.lcmp, 1) := by decide +kernel
theorem dX6_putWord_9 : decode cX6_putWord 9 = .ok (.ifCond .le 12, 3) := by decide +kernel
theorem dX6_putWord_12 : decode cX6_putWord 12 = .ok (.lload_n 3, 1) := by decide +kernel
theorem dX6_putWord_13 : decode cX6_putWord 13 = .ok (.ldc2_w 106, 3) := by decide +kernel
theorem dX6_putWord_16 : decode cX6_putWord 16 = .ok (.lmul, 1) := by decide +kernel
theorem dX6_putWord_17 : decode cX6_putWord 17 = .ok (.lstore_n 3, 1) := by decide +kernel
theorem dX6_putWord_18 : decode cX6_putWord 18 = .ok (.goto (-16), 3) := by decide +kernel
theorem dX6_putWord_21 : decode cX6_putWord 21 = .ok (.lload_n 3, 1) := by decide +kernel
theorem dX6_putWord_22 : decode cX6_putWord 22 = .ok (.lstore 5, 2) := by decide +kernel
theorem dX6_putWord_24 : decode cX6_putWord 24 = .ok (.lload 5, 2) := by decide +kernel
theorem dX6_putWord_26 : decode cX6_putWord 26 = .ok (.lconst 0, 1) := by decide +kernel
theorem dX6_putWord_27 : decode cX6_putWord 27 = .ok (.lcmp, 1) := by decide +kernel
theorem dX6_putWord_28 : decode cX6_putWord 28 = .ok (.ifCond .le 30, 3) := by decide +kernel
theorem dX6_putWord_31 : decode cX6_putWord 31 = .ok (.aload_n 0, 1) := by decide +kernel
theorem dX6_putWord_32 : decode cX6_putWord 32 = .ok (.lload_n 1, 1) := by decide +kernel
theorem dX6_putWord_33 : decode cX6_putWord 33 = .ok (.lload 5, 2) := by decide +kernel
theorem dX6_putWord_35 : decode cX6_putWord 35 = .ok (.ldiv, 1) := by decide +kernel
theorem dX6_putWord_36 : decode cX6_putWord 36 = .ok (.ldc2_w 106, 3) := by decide +kernel
theorem dX6_putWord_39 : decode cX6_putWord 39 = .ok (.lrem, 1) := by decide +kernel
theorem dX6_putWord_40 : decode cX6_putWord 40 = .ok (.l2i, 1) := by decide +kernel
theorem dX6_putWord_41 : decode cX6_putWord 41 = .ok (.bipush 96, 2) := by decide +kernel
theorem dX6_putWord_43 : decode cX6_putWord 43 = .ok (.iadd, 1) := by decide +kernel
theorem dX6_putWord_44 : decode cX6_putWord 44 = .ok (.invokevirtual 255, 3) := by decide +kernel
theorem dX6_putWord_47 : decode cX6_putWord 47 = .ok (.lload 5, 2) := by decide +kernel
theorem dX6_putWord_49 : decode cX6_putWord 49 = .ok (.ldc2_w 106, 3) := by decide +kernel
theorem dX6_putWord_52 : decode cX6_putWord 52 = .ok (.ldiv, 1) := by decide +kernel
theorem dX6_putWord_53 : decode cX6_putWord 53 = .ok (.lstore 5, 2) := by decide +kernel
theorem dX6_putWord_55 : decode cX6_putWord 55 = .ok (.goto (-31), 3) := by decide +kernel
theorem dX6_putWord_58 : decode cX6_putWord 58 = .ok (.return_, 1) := by decide +kernel
theorem dX6_putWhole_0 : decode cX6_putWhole 0 = .ok (.iconst 1, 1) := by decide +kernel
theorem dX6_putWhole_1 : decode cX6_putWhole 1 = .ok (.istore_n 2, 1) := by decide +kernel
theorem dX6_putWhole_2 : decode cX6_putWhole 2 = .ok (.iload_n 1, 1) := by decide +kernel
theorem dX6_putWhole_3 : decode cX6_putWhole 3 = .ok (.iload_n 2, 1) := by decide +kernel
theorem dX6_putWhole_4 : decode cX6_putWhole 4 = .ok (.idiv, 1) := by decide +kernel
theorem dX6_putWhole_5 : decode cX6_putWhole 5 = .ok (.bipush 9, 2) := by decide +kernel
theorem dX6_putWhole_7 : decode cX6_putWhole 7 = .ok (.if_icmp .le 11, 3) := by decide +kernel
theorem dX6_putWhole_10 : decode cX6_putWhole 10 = .ok (.iload_n 2, 1) := by decide +kernel
theorem dX6_putWhole_11 : decode cX6_putWhole 11 = .ok (.bipush 10, 2) := by decide +kernel
theorem dX6_putWhole_13 : decode cX6_putWhole 13 = .ok (.imul, 1) := by decide +kernel
theorem dX6_putWhole_14 : decode cX6_putWhole 14 = .ok (.istore_n 2, 1) := by decide +kernel
theorem dX6_putWhole_15 : decode cX6_putWhole 15 = .ok (.goto (-13), 3) := by decide +kernel
theorem dX6_putWhole_18 : decode cX6_putWhole 18 = .ok (.aload_n 0, 1) := by decide +kernel
theorem dX6_putWhole_19 : decode cX6_putWhole 19 = .ok (.bipush 32, 2) := by decide +kernel
theorem dX6_putWhole_21 : decode cX6_putWhole 21 = .ok (.invokevirtual 255, 3) := by decide +kernel
theorem dX6_putWhole_24 : decode cX6_putWhole 24 = .ok (.iload_n 2, 1) := by decide +kernel
theorem dX6_putWhole_25 : decode cX6_putWhole 25 = .ok (.istore_n 3, 1) := by decide +kernel
theorem dX6_putWhole_26 : decode cX6_putWhole 26 = .ok (.iload_n 3, 1) := by decide +kernel
theorem dX6_putWhole_27 : decode cX6_putWhole 27 = .ok (.ifCond .le 24, 3) := by decide +kernel
theorem dX6_putWhole_30 : decode cX6_putWhole 30 = .ok (.aload_n 0, 1) := by decide +kernel
theorem dX6_putWhole_31 : decode cX6_putWhole 31 = .ok (.bipush 48, 2) := by decide +kernel
theorem dX6_putWhole_33 : decode cX6_putWhole 33 = .ok (.iload_n 1, 1) := by decide +kernel
theorem dX6_putWhole_34 : decode cX6_putWhole 34 = .ok (.iload_n 3, 1) := by decide +kernel
theorem dX6_putWhole_35 : decode cX6_putWhole 35 = .ok (.idiv, 1) := by decide +kernel
theorem dX6_putWhole_36 : decode cX6_putWhole 36 = .ok (.bipush 10, 2) := by decide +kernel
theorem dX6_putWhole_38 : decode cX6_putWhole 38 = .ok (.irem, 1) := by decide +kernel
theorem dX6_putWhole_39 : decode cX6_putWhole 39 = .ok (.iadd, 1) := by decide +kernel
theorem dX6_putWhole_40 : decode cX6_putWhole 40 = .ok (.invokevirtual 255, 3) := by decide +kernel
theorem dX6_putWhole_43 : decode cX6_putWhole 43 = .ok (.iload_n 3, 1) := by decide +kernel
theorem dX6_putWhole_44 : decode cX6_putWhole 44 = .ok (.bipush 10, 2) := by decide +kernel
theorem dX6_putWhole_46 : decode cX6_putWhole 46 = .ok (.idiv, 1) := by decide +kernel
theorem dX6_putWhole_47 : decode cX6_putWhole 47 = .ok (.istore_n 3, 1) := by decide +kernel
theorem dX6_putWhole_48 : decode cX6_putWhole 48 = .ok (.goto (-22), 3) := by decide +kernel
theorem dX6_putWhole_51 : decode cX6_putWhole 51 = .ok (.return_, 1) := by decide +kernel
theorem dX6_putPattern_0 : decode cX6_putPattern 0 = .ok (.iconst 3, 1) := by decide +kernel
theorem dX6_putPattern_1 : decode cX6_putPattern 1 = .ok (.iload_n 1, 1) := by decide +kernel
theorem dX6_putPattern_2 : decode cX6_putPattern 2 = .ok (.imul, 1) := by decide +kernel
theorem dX6_putPattern_3 : decode cX6_putPattern 3 = .ok (.iload_n 2, 1) := by decide +kernel
theorem dX6_putPattern_4 : decode cX6_putPattern 4 = .ok (.iadd, 1) := by decide +kernel
theorem dX6_putPattern_5 : decode cX6_putPattern 5 = .ok (.istore_n 3, 1) := by decide +kernel
theorem dX6_putPattern_6 : decode cX6_putPattern 6 = .ok (.aload_n 0, 1) := by decide +kernel
theorem dX6_putPattern_7 : decode cX6_putPattern 7 = .ok (.bipush 32, 2) := by decide +kernel
theorem dX6_putPattern_9 : decode cX6_putPattern 9 = .ok (.invokevirtual 255, 3) := by decide +kernel
theorem dX6_putPattern_12 : decode cX6_putPattern 12 = .ok (.aload_n 0, 1) := by decide +kernel
theorem dX6_putPattern_13 : decode cX6_putPattern 13 = .ok (.getfield 41, 3) := by decide +kernel
theorem dX6_putPattern_16 : decode cX6_putPattern 16 = .ok (.iload_n 3, 1) := by decide +kernel
theorem dX6_putPattern_17 : decode cX6_putPattern 17 = .ok (.iaload, 1) := by decide +kernel
theorem dX6_putPattern_18 : decode cX6_putPattern 18 = .ok (.ifCond .ne 9, 3) := by decide +kernel
theorem dX6_putPattern_21 : decode cX6_putPattern 21 = .ok (.aload_n 0, 1) := by decide +kernel
theorem dX6_putPattern_22 : decode cX6_putPattern 22 = .ok (.bipush 45, 2) := by decide +kernel
theorem dX6_putPattern_24 : decode cX6_putPattern 24 = .ok (.invokevirtual 255, 3) := by decide +kernel
theorem dX6_putPattern_27 : decode cX6_putPattern 27 = .ok (.iconst 0, 1) := by decide +kernel
theorem dX6_putPattern_28 : decode cX6_putPattern 28 = .ok (.istore 4, 2) := by decide +kernel
theorem dX6_putPattern_30 : decode cX6_putPattern 30 = .ok (.iload 4, 2) := by decide +kernel
theorem dX6_putPattern_32 : decode cX6_putPattern 32 = .ok (.aload_n 0, 1) := by decide +kernel
theorem dX6_putPattern_33 : decode cX6_putPattern 33 = .ok (.getfield 41, 3) := by decide +kernel
theorem dX6_putPattern_36 : decode cX6_putPattern 36 = .ok (.iload_n 3, 1) := by decide +kernel
theorem dX6_putPattern_37 : decode cX6_putPattern 37 = .ok (.iaload, 1) := by decide +kernel
theorem dX6_putPattern_38 : decode cX6_putPattern 38 = .ok (.if_icmp .ge 25, 3) := by decide +kernel
theorem dX6_putPattern_41 : decode cX6_putPattern 41 = .ok (.aload_n 0, 1) := by decide +kernel
theorem dX6_putPattern_42 : decode cX6_putPattern 42 = .ok (.aload_n 0, 1) := by decide +kernel
theorem dX6_putPattern_43 : decode cX6_putPattern 43 = .ok (.getfield 38, 3) := by decide +kernel
theorem dX6_putPattern_46 : decode cX6_putPattern 46 = .ok (.bipush 16, 2) := by decide +kernel
theorem dX6_putPattern_48 : decode cX6_putPattern 48 = .ok (.iload_n 3, 1) := by decide +kernel
theorem dX6_putPattern_49 : decode cX6_putPattern 49 = .ok (.imul, 1) := by decide +kernel
theorem dX6_putPattern_50 : decode cX6_putPattern 50 = .ok (.iload 4, 2) := by decide +kernel
theorem dX6_putPattern_52 : decode cX6_putPattern 52 = .ok (.iadd, 1) := by decide +kernel
theorem dX6_putPattern_53 : decode cX6_putPattern 53 = .ok (.iaload, 1) := by decide +kernel
theorem dX6_putPattern_54 : decode cX6_putPattern 54 = .ok (.invokevirtual 255, 3) := by decide +kernel
theorem dX6_putPattern_57 : decode cX6_putPattern 57 = .ok (.iinc 4 1, 3) := by decide +kernel
theorem dX6_putPattern_60 : decode cX6_putPattern 60 = .ok (.goto (-30), 3) := by decide +kernel
theorem dX6_putPattern_63 : decode cX6_putPattern 63 = .ok (.return_, 1) := by decide +kernel
theorem dX6_print_0 : decode cX6_print 0 = .ok (.aload_n 0, 1) := by decide +kernel
theorem dX6_print_1 : decode cX6_print 1 = .ok (.getfield 19, 3) := by decide +kernel
theorem dX6_print_4 : decode cX6_print 4 = .ok (.iload_n 1, 1) := by decide +kernel
theorem dX6_print_5 : decode cX6_print 5 = .ok (.iaload, 1) := by decide +kernel
theorem dX6_print_6 : decode cX6_print 6 = .ok (.istore_n 2, 1) := by decide +kernel
theorem dX6_print_7 : decode cX6_print 7 = .ok (.aload_n 0, 1) := by decide +kernel
theorem dX6_print_8 : decode cX6_print 8 = .ok (.iload_n 2, 1) := by decide +kernel
theorem dX6_print_9 : decode cX6_print 9 = .ok (.invokestatic 122, 3) := by decide +kernel
theorem dX6_print_12 : decode cX6_print 12 = .ok (.invokevirtual 258, 3) := by decide +kernel
theorem dX6_print_15 : decode cX6_print 15 = .ok (.iload_n 2, 1) := by decide +kernel
theorem dX6_print_16 : decode cX6_print 16 = .ok (.iconst 3, 1) := by decide +kernel
theorem dX6_print_17 : decode cX6_print 17 = .ok (.if_icmp .gt 19, 3) := by decide +kernel
theorem dX6_print_20 : decode cX6_print 20 = .ok (.aload_n 0, 1) := by decide +kernel
theorem dX6_print_21 : decode cX6_print 21 = .ok (.bipush 32, 2) := by decide +kernel
theorem dX6_print_23 : decode cX6_print 23 = .ok (.invokevirtual 255, 3) := by decide +kernel
theorem dX6_print_26 : decode cX6_print 26 = .ok (.aload_n 0, 1) := by decide +kernel
theorem dX6_print_27 : decode cX6_print 27 = .ok (.aload_n 0, 1) := by decide +kernel
theorem dX6_print_28 : decode cX6_print 28 = .ok (.getfield 22, 3) := by decide +kernel
theorem dX6_print_31 : decode cX6_print 31 = .ok (.iload_n 1, 1) := by decide +kernel
theorem dX6_print_32 : decode cX6_print 32 = .ok (.laload, 1) := by decide +kernel
theorem dX6_print_33 : decode cX6_print 33 = .ok (.invokevirtual 258, 3) := by decide +kernel
theorem dX6_print_36 : decode cX6_print 36 = .ok (.iload_n 2, 1) := by decide +kernel
theorem dX6_print_37 : decode cX6_print 37 = .ok (.iconst 1, 1) := by decide +kernel
theorem dX6_print_38 : decode cX6_print 38 = .ok (.if_icmp .lt 24, 3) := by decide +kernel
theorem dX6_print_41 : decode cX6_print 41 = .ok (.iload_n 2, 1) := by decide +kernel
theorem dX6_print_42 : decode cX6_print 42 = .ok (.iconst 3, 1) := by decide +kernel
theorem dX6_print_43 : decode cX6_print 43 = .ok (.if_icmp .gt 19, 3) := by decide +kernel
theorem dX6_print_46 : decode cX6_print 46 = .ok (.aload_n 0, 1) := by decide +kernel
theorem dX6_print_47 : decode cX6_print 47 = .ok (.bipush 32, 2) := by decide +kernel
theorem dX6_print_49 : decode cX6_print 49 = .ok (.invokevirtual 255, 3) := by decide +kernel
theorem dX6_print_52 : decode cX6_print 52 = .ok (.aload_n 0, 1) := by decide +kernel
theorem dX6_print_53 : decode cX6_print 53 = .ok (.aload_n 0, 1) := by decide +kernel
theorem dX6_print_54 : decode cX6_print 54 = .ok (.getfield 26, 3) := by decide +kernel
theorem dX6_print_57 : decode cX6_print 57 = .ok (.iload_n 1, 1) := by decide +kernel
theorem dX6_print_58 : decode cX6_print 58 = .ok (.laload, 1) := by decide +kernel
theorem dX6_print_59 : decode cX6_print 59 = .ok (.invokevirtual 258, 3) := by decide +kernel
theorem dX6_print_62 : decode cX6_print 62 = .ok (.iload_n 2, 1) := by decide +kernel
theorem dX6_print_63 : decode cX6_print 63 = .ok (.iconst 3, 1) := by decide +kernel
theorem dX6_print_64 : decode cX6_print 64 = .ok (.if_icmp .eq 18, 3) := by decide +kernel
theorem dX6_print_67 : decode cX6_print 67 = .ok (.iload_n 2, 1) := by decide +kernel
theorem dX6_print_68 : decode cX6_print 68 = .ok (.iconst 4, 1) := by decide +kernel
theorem dX6_print_69 : decode cX6_print 69 = .ok (.if_icmp .eq 13, 3) := by decide +kernel
theorem dX6_print_72 : decode cX6_print 72 = .ok (.aload_n 0, 1) := by decide +kernel
theorem dX6_print_73 : decode cX6_print 73 = .ok (.aload_n 0, 1) := by decide +kernel
theorem dX6_print_74 : decode cX6_print 74 = .ok (.getfield 29, 3) := by decide +kernel
theorem dX6_print_77 : decode cX6_print 77 = .ok (.iload_n 1, 1) := by decide +kernel
theorem dX6_print_78 : decode cX6_print 78 = .ok (.iaload, 1) := by decide +kernel
theorem dX6_print_79 : decode cX6_print 79 = .ok (.invokevirtual 262, 3) := by decide +kernel
theorem dX6_print_82 : decode cX6_print 82 = .ok (.iload_n 2, 1) := by decide +kernel
theorem dX6_print_83 : decode cX6_print 83 = .ok (.iconst 2, 1) := by decide +kernel
theorem dX6_print_84 : decode cX6_print 84 = .ok (.if_icmp .gt 13, 3) := by decide +kernel
theorem dX6_print_87 : decode cX6_print 87 = .ok (.aload_n 0, 1) := by decide +kernel
theorem dX6_print_88 : decode cX6_print 88 = .ok (.aload_n 0, 1) := by decide +kernel
theorem dX6_print_89 : decode cX6_print 89 = .ok (.getfield 32, 3) := by decide +kernel
theorem dX6_print_92 : decode cX6_print 92 = .ok (.iload_n 1, 1) := by decide +kernel
theorem dX6_print_93 : decode cX6_print 93 = .ok (.iaload, 1) := by decide +kernel
theorem dX6_print_94 : decode cX6_print 94 = .ok (.invokevirtual 262, 3) := by decide +kernel
theorem dX6_print_97 : decode cX6_print 97 = .ok (.iload_n 2, 1) := by decide +kernel
theorem dX6_print_98 : decode cX6_print 98 = .ok (.ifCond .ne 13, 3) := by decide +kernel
theorem dX6_print_101 : decode cX6_print 101 = .ok (.aload_n 0, 1) := by decide +kernel
theorem dX6_print_102 : decode cX6_print 102 = .ok (.aload_n 0, 1) := by decide +kernel
theorem dX6_print_103 : decode cX6_print 103 = .ok (.getfield 35, 3) := by decide +kernel
theorem dX6_print_106 : decode cX6_print 106 = .ok (.iload_n 1, 1) := by decide +kernel
theorem dX6_print_107 : decode cX6_print 107 = .ok (.iaload, 1) := by decide +kernel
theorem dX6_print_108 : decode cX6_print 108 = .ok (.invokevirtual 262, 3) := by decide +kernel
theorem dX6_print_111 : decode cX6_print 111 = .ok (.iconst 0, 1) := by decide +kernel
theorem dX6_print_112 : decode cX6_print 112 = .ok (.istore_n 3, 1) := by decide +kernel
theorem dX6_print_113 : decode cX6_print 113 = .ok (.iload_n 3, 1) := by decide +kernel
theorem dX6_print_114 : decode cX6_print 114 = .ok (.iload_n 2, 1) := by decide +kernel
theorem dX6_print_115 : decode cX6_print 115 = .ok (.iconst 3, 1) := by decide +kernel
theorem dX6_print_116 : decode cX6_print 116 = .ok (.if_icmp .ne 7, 3) := by decide +kernel
theorem dX6_print_119 : decode cX6_print 119 = .ok (.iconst 0, 1) := by decide +kernel
theorem dX6_print_120 : decode cX6_print 120 = .ok (.goto 19, 3) := by decide +kernel
theorem dX6_print_123 : decode cX6_print 123 = .ok (.iload_n 2, 1) := by decide +kernel
theorem dX6_print_124 : decode cX6_print 124 = .ok (.iconst 4, 1) := by decide +kernel
theorem dX6_print_125 : decode cX6_print 125 = .ok (.if_icmp .lt 13, 3) := by decide +kernel
theorem dX6_print_128 : decode cX6_print 128 = .ok (.iload_n 2, 1) := by decide +kernel
theorem dX6_print_129 : decode cX6_print 129 = .ok (.bipush 7, 2) := by decide +kernel
theorem dX6_print_131 : decode cX6_print 131 = .ok (.if_icmp .gt 7, 3) := by decide +kernel
theorem dX6_print_134 : decode cX6_print 134 = .ok (.iconst 3, 1) := by decide +kernel
theorem dX6_print_135 : decode cX6_print 135 = .ok (.goto 4, 3) := by decide +kernel
theorem dX6_print_138 : decode cX6_print 138 = .ok (.iconst 1, 1) := by decide +kernel
theorem dX6_print_139 : decode cX6_print 139 = .ok (.if_icmp .ge 15, 3) := by decide +kernel
theorem dX6_print_142 : decode cX6_print 142 = .ok (.aload_n 0, 1) := by decide +kernel
theorem dX6_print_143 : decode cX6_print 143 = .ok (.iload_n 1, 1) := by decide +kernel
theorem dX6_print_144 : decode cX6_print 144 = .ok (.iload_n 3, 1) := by decide +kernel
theorem dX6_print_145 : decode cX6_print 145 = .ok (.invokevirtual 265, 3) := by decide +kernel
theorem dX6_print_148 : decode cX6_print 148 = .ok (.iinc 3 1, 3) := by decide +kernel
theorem dX6_print_151 : decode cX6_print 151 = .ok (.goto (-38), 3) := by decide +kernel
theorem dX6_print_154 : decode cX6_print 154 = .ok (.aload_n 0, 1) := by decide +kernel
theorem dX6_print_155 : decode cX6_print 155 = .ok (.bipush 59, 2) := by decide +kernel
theorem dX6_print_157 : decode cX6_print 157 = .ok (.invokevirtual 255, 3) := by decide +kernel
theorem dX6_print_160 : decode cX6_print 160 = .ok (.aload_n 0, 1) := by decide +kernel
theorem dX6_print_161 : decode cX6_print 161 = .ok (.bipush 10, 2) := by decide +kernel
theorem dX6_print_163 : decode cX6_print 163 = .ok (.invokevirtual 255, 3) := by decide +kernel
theorem dX6_print_166 : decode cX6_print 166 = .ok (.return_, 1) := by decide +kernel
theorem dX6_printAll_0 : decode cX6_printAll 0 = .ok (.aload_n 0, 1) := by decide +kernel
theorem dX6_printAll_1 : decode cX6_printAll 1 = .ok (.iload_n 1, 1) := by decide +kernel
theorem dX6_printAll_2 : decode cX6_printAll 2 = .ok (.putfield 247, 3) := by decide +kernel
theorem dX6_printAll_5 : decode cX6_printAll 5 = .ok (.aload_n 0, 1) := by decide +kernel
theorem dX6_printAll_6 : decode cX6_printAll 6 = .ok (.iconst 0, 1) := by decide +kernel
theorem dX6_printAll_7 : decode cX6_printAll 7 = .ok (.putfield 244, 3) := by decide +kernel
theorem dX6_printAll_10 : decode cX6_printAll 10 = .ok (.aload_n 0, 1) := by decide +kernel
theorem dX6_printAll_11 : decode cX6_printAll 11 = .ok (.iconst (-1), 1) := by decide +kernel
theorem dX6_printAll_12 : decode cX6_printAll 12 = .ok (.putfield 250, 3) := by decide +kernel
theorem dX6_printAll_15 : decode cX6_printAll 15 = .ok (.iconst 0, 1) := by decide +kernel
theorem dX6_printAll_16 : decode cX6_printAll 16 = .ok (.istore_n 2, 1) := by decide +kernel
theorem dX6_printAll_17 : decode cX6_printAll 17 = .ok (.iload_n 2, 1) := by decide +kernel
theorem dX6_printAll_18 : decode cX6_printAll 18 = .ok (.aload_n 0, 1) := by decide +kernel
theorem dX6_printAll_19 : decode cX6_printAll 19 = .ok (.getfield 205, 3) := by decide +kernel
theorem dX6_printAll_22 : decode cX6_printAll 22 = .ok (.if_icmp .ge 14, 3) := by decide +kernel
theorem dX6_printAll_25 : decode cX6_printAll 25 = .ok (.aload_n 0, 1) := by decide +kernel
theorem dX6_printAll_26 : decode cX6_printAll 26 = .ok (.iload_n 2, 1) := by decide +kernel
theorem dX6_printAll_27 : decode cX6_printAll 27 = .ok (.invokevirtual 269, 3) := by decide +kernel
theorem dX6_printAll_30 : decode cX6_printAll 30 = .ok (.iinc 2 1, 3) := by decide +kernel
theorem dX6_printAll_33 : decode cX6_printAll 33 = .ok (.goto (-16), 3) := by decide +kernel
theorem dX6_printAll_36 : decode cX6_printAll 36 = .ok (.return_, 1) := by decide +kernel
theorem dX6_write_0 : decode cX6_write 0 = .ok (.aload_n 0, 1) := by decide +kernel
theorem dX6_write_1 : decode cX6_write 1 = .ok (.iload_n 1, 1) := by decide +kernel
theorem dX6_write_2 : decode cX6_write 2 = .ok (.ifCond .ge 7, 3) := by decide +kernel
theorem dX6_write_5 : decode cX6_write 5 = .ok (.iconst 1, 1) := by decide +kernel
theorem dX6_write_6 : decode cX6_write 6 = .ok (.goto 4, 3) := by decide +kernel
theorem dX6_write_9 : decode cX6_write 9 = .ok (.iconst 0, 1) := by decide +kernel
theorem dX6_write_10 : decode cX6_write 10 = .ok (.putfield 75, 3) := by decide +kernel
theorem dX6_write_13 : decode cX6_write 13 = .ok (.aload_n 0, 1) := by decide +kernel
theorem dX6_write_14 : decode cX6_write 14 = .ok (.getfield 75, 3) := by decide +kernel
theorem dX6_write_17 : decode cX6_write 17 = .ok (.ifCond .le 5, 3) := by decide +kernel
theorem dX6_write_20 : decode cX6_write 20 = .ok (.iconst 0, 1) := by decide +kernel
theorem dX6_write_21 : decode cX6_write 21 = .ok (.ireturn, 1) := by decide +kernel
theorem dX6_write_22 : decode cX6_write 22 = .ok (.aload_n 0, 1) := by decide +kernel
theorem dX6_write_23 : decode cX6_write 23 = .ok (.iload_n 1, 1) := by decide +kernel
theorem dX6_write_24 : decode cX6_write 24 = .ok (.invokevirtual 272, 3) := by decide +kernel
theorem dX6_write_27 : decode cX6_write 27 = .ok (.aload_n 0, 1) := by decide +kernel
theorem dX6_write_28 : decode cX6_write 28 = .ok (.getfield 250, 3) := by decide +kernel
theorem dX6_write_31 : decode cX6_write 31 = .ok (.ireturn, 1) := by decide +kernel
theorem dX6_count_0 : decode cX6_count 0 = .ok (.aload_n 0, 1) := by decide +kernel
theorem dX6_count_1 : decode cX6_count 1 = .ok (.iload_n 1, 1) := by decide +kernel
theorem dX6_count_2 : decode cX6_count 2 = .ok (.ifCond .lt 8, 3) := by decide +kernel
theorem dX6_count_5 : decode cX6_count 5 = .ok (.iload_n 1, 1) := by decide +kernel
theorem dX6_count_6 : decode cX6_count 6 = .ok (.iconst 3, 1) := by decide +kernel
theorem dX6_count_7 : decode cX6_count 7 = .ok (.if_icmp .le 7, 3) := by decide +kernel
theorem dX6_count_10 : decode cX6_count 10 = .ok (.iconst 1, 1) := by decide +kernel
theorem dX6_count_11 : decode cX6_count 11 = .ok (.goto 4, 3) := by decide +kernel
theorem dX6_count_14 : decode cX6_count 14 = .ok (.iconst 0, 1) := by decide +kernel
theorem dX6_count_15 : decode cX6_count 15 = .ok (.putfield 75, 3) := by decide +kernel
theorem dX6_count_18 : decode cX6_count 18 = .ok (.aload_n 0, 1) := by decide +kernel
theorem dX6_count_19 : decode cX6_count 19 = .ok (.getfield 75, 3) := by decide +kernel
theorem dX6_count_22 : decode cX6_count 22 = .ok (.ifCond .le 5, 3) := by decide +kernel
theorem dX6_count_25 : decode cX6_count 25 = .ok (.iconst 0, 1) := by decide +kernel
theorem dX6_count_26 : decode cX6_count 26 = .ok (.ireturn, 1) := by decide +kernel
theorem dX6_count_27 : decode cX6_count 27 = .ok (.iload_n 1, 1) := by decide +kernel
theorem dX6_count_28 : decode cX6_count 28 = .ok (.iconst 3, 1) := by decide +kernel
theorem dX6_count_29 : decode cX6_count 29 = .ok (.if_icmp .ne 13, 3) := by decide +kernel
theorem dX6_count_32 : decode cX6_count 32 = .ok (.aload_n 0, 1) := by decide +kernel
theorem dX6_count_33 : decode cX6_count 33 = .ok (.iconst (-1), 1) := by decide +kernel
theorem dX6_count_34 : decode cX6_count 34 = .ok (.invokevirtual 272, 3) := by decide +kernel
theorem dX6_count_37 : decode cX6_count 37 = .ok (.aload_n 0, 1) := by decide +kernel
theorem dX6_count_38 : decode cX6_count 38 = .ok (.getfield 244, 3) := by decide +kernel
theorem dX6_count_41 : decode cX6_count 41 = .ok (.ireturn, 1) := by decide +kernel
theorem dX6_count_42 : decode cX6_count 42 = .ok (.iload_n 1, 1) := by decide +kernel
theorem dX6_count_43 : decode cX6_count 43 = .ok (.ifCond .ne 10, 3) := by decide +kernel
theorem dX6_count_46 : decode cX6_count 46 = .ok (.aload_n 0, 1) := by decide +kernel
theorem dX6_count_47 : decode cX6_count 47 = .ok (.getfield 205, 3) := by decide +kernel
theorem dX6_count_50 : decode cX6_count 50 = .ok (.goto 19, 3) := by decide +kernel
theorem dX6_count_53 : decode cX6_count 53 = .ok (.iload_n 1, 1) := by decide +kernel
theorem dX6_count_54 : decode cX6_count 54 = .ok (.iconst 1, 1) := by decide +kernel
theorem dX6_count_55 : decode cX6_count 55 = .ok (.if_icmp .ne 10, 3) := by decide +kernel
theorem dX6_count_58 : decode cX6_count 58 = .ok (.aload_n 0, 1) := by decide +kernel
theorem dX6_count_59 : decode cX6_count 59 = .ok (.getfield 208, 3) := by decide +kernel
theorem dX6_count_62 : decode cX6_count 62 = .ok (.goto 7, 3) := by decide +kernel
theorem dX6_count_65 : decode cX6_count 65 = .ok (.aload_n 0, 1) := by decide +kernel
theorem dX6_count_66 : decode cX6_count 66 = .ok (.getfield 86, 3) := by decide +kernel
theorem dX6_count_69 : decode cX6_count 69 = .ok (.ireturn, 1) := by decide +kernel
theorem dJ13_bitCount_95d88_0 : decode cJ13_bitCount_95d88 0 = .ok (.lload_n 0, 1) := by decide +kernel
theorem dJ13_bitCount_95d88_1 : decode cJ13_bitCount_95d88 1 = .ok (.lload_n 0, 1) := by decide +kernel
theorem dJ13_bitCount_95d88_2 : decode cJ13_bitCount_95d88 2 = .ok (.iconst 1, 1) := by decide +kernel
theorem dJ13_bitCount_95d88_3 : decode cJ13_bitCount_95d88 3 = .ok (.lushr, 1) := by decide +kernel
theorem dJ13_bitCount_95d88_4 : decode cJ13_bitCount_95d88 4 = .ok (.ldc2_w 314, 3) := by decide +kernel
theorem dJ13_bitCount_95d88_7 : decode cJ13_bitCount_95d88 7 = .ok (.land, 1) := by decide +kernel
theorem dJ13_bitCount_95d88_8 : decode cJ13_bitCount_95d88 8 = .ok (.lsub, 1) := by decide +kernel
theorem dJ13_bitCount_95d88_9 : decode cJ13_bitCount_95d88 9 = .ok (.lstore_n 0, 1) := by decide +kernel
theorem dJ13_bitCount_95d88_10 : decode cJ13_bitCount_95d88 10 = .ok (.lload_n 0, 1) := by decide +kernel
theorem dJ13_bitCount_95d88_11 : decode cJ13_bitCount_95d88 11 = .ok (.ldc2_w 316, 3) := by decide +kernel
theorem dJ13_bitCount_95d88_14 : decode cJ13_bitCount_95d88 14 = .ok (.land, 1) := by decide +kernel
theorem dJ13_bitCount_95d88_15 : decode cJ13_bitCount_95d88 15 = .ok (.lload_n 0, 1) := by decide +kernel
theorem dJ13_bitCount_95d88_16 : decode cJ13_bitCount_95d88 16 = .ok (.iconst 2, 1) := by decide +kernel
theorem dJ13_bitCount_95d88_17 : decode cJ13_bitCount_95d88 17 = .ok (.lushr, 1) := by decide +kernel
theorem dJ13_bitCount_95d88_18 : decode cJ13_bitCount_95d88 18 = .ok (.ldc2_w 316, 3) := by decide +kernel
theorem dJ13_bitCount_95d88_21 : decode cJ13_bitCount_95d88 21 = .ok (.land, 1) := by decide +kernel
theorem dJ13_bitCount_95d88_22 : decode cJ13_bitCount_95d88 22 = .ok (.ladd, 1) := by decide +kernel
theorem dJ13_bitCount_95d88_23 : decode cJ13_bitCount_95d88 23 = .ok (.lstore_n 0, 1) := by decide +kernel
theorem dJ13_bitCount_95d88_24 : decode cJ13_bitCount_95d88 24 = .ok (.lload_n 0, 1) := by decide +kernel
theorem dJ13_bitCount_95d88_25 : decode cJ13_bitCount_95d88 25 = .ok (.lload_n 0, 1) := by decide +kernel
theorem dJ13_bitCount_95d88_26 : decode cJ13_bitCount_95d88 26 = .ok (.iconst 4, 1) := by decide +kernel
theorem dJ13_bitCount_95d88_27 : decode cJ13_bitCount_95d88 27 = .ok (.lushr, 1) := by decide +kernel
theorem dJ13_bitCount_95d88_28 : decode cJ13_bitCount_95d88 28 = .ok (.ladd, 1) := by decide +kernel
theorem dJ13_bitCount_95d88_29 : decode cJ13_bitCount_95d88 29 = .ok (.ldc2_w 318, 3) := by decide +kernel
theorem dJ13_bitCount_95d88_32 : decode cJ13_bitCount_95d88 32 = .ok (.land, 1) := by decide +kernel
theorem dJ13_bitCount_95d88_33 : decode cJ13_bitCount_95d88 33 = .ok (.lstore_n 0, 1) := by decide +kernel
theorem dJ13_bitCount_95d88_34 : decode cJ13_bitCount_95d88 34 = .ok (.lload_n 0, 1) := by decide +kernel
theorem dJ13_bitCount_95d88_35 : decode cJ13_bitCount_95d88 35 = .ok (.lload_n 0, 1) := by decide +kernel
theorem dJ13_bitCount_95d88_36 : decode cJ13_bitCount_95d88 36 = .ok (.bipush 8, 2) := by decide +kernel
theorem dJ13_bitCount_95d88_38 : decode cJ13_bitCount_95d88 38 = .ok (.lushr, 1) := by decide +kernel
theorem dJ13_bitCount_95d88_39 : decode cJ13_bitCount_95d88 39 = .ok (.ladd, 1) := by decide +kernel
theorem dJ13_bitCount_95d88_40 : decode cJ13_bitCount_95d88 40 = .ok (.lstore_n 0, 1) := by decide +kernel
theorem dJ13_bitCount_95d88_41 : decode cJ13_bitCount_95d88 41 = .ok (.lload_n 0, 1) := by decide +kernel
theorem dJ13_bitCount_95d88_42 : decode cJ13_bitCount_95d88 42 = .ok (.lload_n 0, 1) := by decide +kernel
theorem dJ13_bitCount_95d88_43 : decode cJ13_bitCount_95d88 43 = .ok (.bipush 16, 2) := by decide +kernel
theorem dJ13_bitCount_95d88_45 : decode cJ13_bitCount_95d88 45 = .ok (.lushr, 1) := by decide +kernel
theorem dJ13_bitCount_95d88_46 : decode cJ13_bitCount_95d88 46 = .ok (.ladd, 1) := by decide +kernel
theorem dJ13_bitCount_95d88_47 : decode cJ13_bitCount_95d88 47 = .ok (.lstore_n 0, 1) := by decide +kernel
theorem dJ13_bitCount_95d88_48 : decode cJ13_bitCount_95d88 48 = .ok (.lload_n 0, 1) := by decide +kernel
theorem dJ13_bitCount_95d88_49 : decode cJ13_bitCount_95d88 49 = .ok (.lload_n 0, 1) := by decide +kernel
theorem dJ13_bitCount_95d88_50 : decode cJ13_bitCount_95d88 50 = .ok (.bipush 32, 2) := by decide +kernel
theorem dJ13_bitCount_95d88_52 : decode cJ13_bitCount_95d88 52 = .ok (.lushr, 1) := by decide +kernel
theorem dJ13_bitCount_95d88_53 : decode cJ13_bitCount_95d88 53 = .ok (.ladd, 1) := by decide +kernel
theorem dJ13_bitCount_95d88_54 : decode cJ13_bitCount_95d88 54 = .ok (.lstore_n 0, 1) := by decide +kernel
theorem dJ13_bitCount_95d88_55 : decode cJ13_bitCount_95d88 55 = .ok (.lload_n 0, 1) := by decide +kernel
theorem dJ13_bitCount_95d88_56 : decode cJ13_bitCount_95d88 56 = .ok (.l2i, 1) := by decide +kernel
theorem dJ13_bitCount_95d88_57 : decode cJ13_bitCount_95d88 57 = .ok (.bipush 127, 2) := by decide +kernel
theorem dJ13_bitCount_95d88_59 : decode cJ13_bitCount_95d88 59 = .ok (.iand, 1) := by decide +kernel
theorem dJ13_bitCount_95d88_60 : decode cJ13_bitCount_95d88 60 = .ok (.ireturn, 1) := by decide +kernel
theorem dJ9_floorMod_f86c9_0 : decode cJ9_floorMod_f86c9 0 = .ok (.lload_n 0, 1) := by decide +kernel
theorem dJ9_floorMod_f86c9_1 : decode cJ9_floorMod_f86c9 1 = .ok (.lload_n 2, 1) := by decide +kernel
theorem dJ9_floorMod_f86c9_2 : decode cJ9_floorMod_f86c9 2 = .ok (.lrem, 1) := by decide +kernel
theorem dJ9_floorMod_f86c9_3 : decode cJ9_floorMod_f86c9 3 = .ok (.lstore 4, 2) := by decide +kernel
theorem dJ9_floorMod_f86c9_5 : decode cJ9_floorMod_f86c9 5 = .ok (.lload_n 0, 1) := by decide +kernel
theorem dJ9_floorMod_f86c9_6 : decode cJ9_floorMod_f86c9 6 = .ok (.lload_n 2, 1) := by decide +kernel
theorem dJ9_floorMod_f86c9_7 : decode cJ9_floorMod_f86c9 7 = .ok (.lxor, 1) := by decide +kernel
theorem dJ9_floorMod_f86c9_8 : decode cJ9_floorMod_f86c9 8 = .ok (.lconst 0, 1) := by decide +kernel
theorem dJ9_floorMod_f86c9_9 : decode cJ9_floorMod_f86c9 9 = .ok (.lcmp, 1) := by decide +kernel
theorem dJ9_floorMod_f86c9_10 : decode cJ9_floorMod_f86c9 10 = .ok (.ifCond .ge 15, 3) := by decide +kernel
theorem dJ9_floorMod_f86c9_13 : decode cJ9_floorMod_f86c9 13 = .ok (.lload 4, 2) := by decide +kernel
theorem dJ9_floorMod_f86c9_15 : decode cJ9_floorMod_f86c9 15 = .ok (.lconst 0, 1) := by decide +kernel
theorem dJ9_floorMod_f86c9_16 : decode cJ9_floorMod_f86c9 16 = .ok (.lcmp, 1) := by decide +kernel
theorem dJ9_floorMod_f86c9_17 : decode cJ9_floorMod_f86c9 17 = .ok (.ifCond .eq 8, 3) := by decide +kernel
theorem dJ9_floorMod_f86c9_20 : decode cJ9_floorMod_f86c9 20 = .ok (.lload 4, 2) := by decide +kernel
theorem dJ9_floorMod_f86c9_22 : decode cJ9_floorMod_f86c9 22 = .ok (.lload_n 2, 1) := by decide +kernel
theorem dJ9_floorMod_f86c9_23 : decode cJ9_floorMod_f86c9 23 = .ok (.ladd, 1) := by decide +kernel
theorem dJ9_floorMod_f86c9_24 : decode cJ9_floorMod_f86c9 24 = .ok (.lreturn, 1) := by decide +kernel
theorem dJ9_floorMod_f86c9_25 : decode cJ9_floorMod_f86c9 25 = .ok (.lload 4, 2) := by decide +kernel
theorem dJ9_floorMod_f86c9_27 : decode cJ9_floorMod_f86c9 27 = .ok (.lreturn, 1) := by decide +kernel
theorem dJ0_length_8abf5_0 : decode cJ0_length_8abf5 0 = .ok (.aload_n 0, 1) := by decide +kernel
theorem dJ0_length_8abf5_1 : decode cJ0_length_8abf5 1 = .ok (.getfield 9, 3) := by decide +kernel
theorem dJ0_length_8abf5_4 : decode cJ0_length_8abf5 4 = .ok (.arraylength, 1) := by decide +kernel
theorem dJ0_length_8abf5_5 : decode cJ0_length_8abf5 5 = .ok (.aload_n 0, 1) := by decide +kernel
theorem dJ0_length_8abf5_6 : decode cJ0_length_8abf5 6 = .ok (.invokevirtual 335, 3) := by decide +kernel
theorem dJ0_length_8abf5_9 : decode cJ0_length_8abf5 9 = .ok (.ishr, 1) := by decide +kernel
theorem dJ0_length_8abf5_10 : decode cJ0_length_8abf5 10 = .ok (.ireturn, 1) := by decide +kernel
theorem dJ0_charAt_5068e_0 : decode cJ0_charAt_5068e 0 = .ok (.aload_n 0, 1) := by decide +kernel
theorem dJ0_charAt_5068e_1 : decode cJ0_charAt_5068e 1 = .ok (.invokevirtual 492, 3) := by decide +kernel
theorem dJ0_charAt_5068e_4 : decode cJ0_charAt_5068e 4 = .ok (.ifCond .eq 12, 3) := by decide +kernel
theorem dJ0_charAt_5068e_7 : decode cJ0_charAt_5068e 7 = .ok (.aload_n 0, 1) := by decide +kernel
theorem dJ0_charAt_5068e_8 : decode cJ0_charAt_5068e 8 = .ok (.getfield 9, 3) := by decide +kernel
theorem dJ0_charAt_5068e_11 : decode cJ0_charAt_5068e 11 = .ok (.iload_n 1, 1) := by decide +kernel
theorem dJ0_charAt_5068e_12 : decode cJ0_charAt_5068e 12 = .ok (.invokestatic 495, 3) := by decide +kernel
theorem dJ0_charAt_5068e_15 : decode cJ0_charAt_5068e 15 = .ok (.ireturn, 1) := by decide +kernel
theorem dJ0_charAt_5068e_16 : decode cJ0_charAt_5068e 16 = .ok (.aload_n 0, 1) := by decide +kernel
theorem dJ0_charAt_5068e_17 : decode cJ0_charAt_5068e 17 = .ok (.getfield 9, 3) := by decide +kernel
theorem dJ0_charAt_5068e_20 : decode cJ0_charAt_5068e 20 = .ok (.iload_n 1, 1) := by decide +kernel
theorem dJ0_charAt_5068e_21 : decode cJ0_charAt_5068e 21 = .ok (.invokestatic 498, 3) := by decide +kernel
theorem dJ0_charAt_5068e_24 : decode cJ0_charAt_5068e 24 = .ok (.ireturn, 1) := by decide +kernel
theorem dJ0_coder_7d493_0 : decode cJ0_coder_7d493 0 = .ok (.getstatic 38, 3) := by decide +kernel
theorem dJ0_coder_7d493_3 : decode cJ0_coder_7d493 3 = .ok (.ifCond .eq 10, 3) := by decide +kernel
theorem dJ0_coder_7d493_6 : decode cJ0_coder_7d493 6 = .ok (.aload_n 0, 1) := by decide +kernel
theorem dJ0_coder_7d493_7 : decode cJ0_coder_7d493 7 = .ok (.getfield 15, 3) := by decide +kernel
theorem dJ0_coder_7d493_10 : decode cJ0_coder_7d493 10 = .ok (.goto 4, 3) := by decide +kernel
theorem dJ0_coder_7d493_13 : decode cJ0_coder_7d493 13 = .ok (.iconst 1, 1) := by decide +kernel
theorem dJ0_coder_7d493_14 : decode cJ0_coder_7d493 14 = .ok (.ireturn, 1) := by decide +kernel
theorem dJ0_isLatin1_aae02_0 : decode cJ0_isLatin1_aae02 0 = .ok (.getstatic 38, 3) := by decide +kernel
theorem dJ0_isLatin1_aae02_3 : decode cJ0_isLatin1_aae02 3 = .ok (.ifCond .eq 14, 3) := by decide +kernel
theorem dJ0_isLatin1_aae02_6 : decode cJ0_isLatin1_aae02 6 = .ok (.aload_n 0, 1) := by decide +kernel
theorem dJ0_isLatin1_aae02_7 : decode cJ0_isLatin1_aae02 7 = .ok (.getfield 15, 3) := by decide +kernel
theorem dJ0_isLatin1_aae02_10 : decode cJ0_isLatin1_aae02 10 = .ok (.ifCond .ne 7, 3) := by decide +kernel
theorem dJ0_isLatin1_aae02_13 : decode cJ0_isLatin1_aae02 13 = .ok (.iconst 1, 1) := by decide +kernel
theorem dJ0_isLatin1_aae02_14 : decode cJ0_isLatin1_aae02 14 = .ok (.goto 4, 3) := by decide +kernel
theorem dJ0_isLatin1_aae02_17 : decode cJ0_isLatin1_aae02 17 = .ok (.iconst 0, 1) := by decide +kernel
theorem dJ0_isLatin1_aae02_18 : decode cJ0_isLatin1_aae02 18 = .ok (.ireturn, 1) := by decide +kernel
theorem dJ0_checkIndex_df160_0 : decode cJ0_checkIndex_df160 0 = .ok (.iload_n 0, 1) := by decide +kernel
theorem dJ0_checkIndex_df160_1 : decode cJ0_checkIndex_df160 1 = .ok (.iload_n 1, 1) := by decide +kernel
theorem dJ0_checkIndex_df160_2 : decode cJ0_checkIndex_df160 2 = .ok (.getstatic 1053, 3) := by decide +kernel
theorem dJ0_checkIndex_df160_5 : decode cJ0_checkIndex_df160 5 = .ok (.invokestatic 1059, 3) := by decide +kernel
theorem dJ0_checkIndex_df160_8 : decode cJ0_checkIndex_df160 8 = .ok (.pop, 1) := by decide +kernel
theorem dJ0_checkIndex_df160_9 : decode cJ0_checkIndex_df160 9 = .ok (.return_, 1) := by decide +kernel
theorem dJ1_charAt_3b067_0 : decode cJ1_charAt_3b067 0 = .ok (.iload_n 1, 1) := by decide +kernel
theorem dJ1_charAt_3b067_1 : decode cJ1_charAt_3b067 1 = .ok (.aload_n 0, 1) := by decide +kernel
theorem dJ1_charAt_3b067_2 : decode cJ1_charAt_3b067 2 = .ok (.arraylength, 1) := by decide +kernel
theorem dJ1_charAt_3b067_3 : decode cJ1_charAt_3b067 3 = .ok (.invokestatic 9, 3) := by decide +kernel
theorem dJ1_charAt_3b067_6 : decode cJ1_charAt_3b067 6 = .ok (.aload_n 0, 1) := by decide +kernel
theorem dJ1_charAt_3b067_7 : decode cJ1_charAt_3b067 7 = .ok (.iload_n 1, 1) := by decide +kernel
theorem dJ1_charAt_3b067_8 : decode cJ1_charAt_3b067 8 = .ok (.baload, 1) := by decide +kernel
theorem dJ1_charAt_3b067_9 : decode cJ1_charAt_3b067 9 = .ok (.sipush 255, 3) := by decide +kernel
theorem dJ1_charAt_3b067_12 : decode cJ1_charAt_3b067 12 = .ok (.iand, 1) := by decide +kernel
theorem dJ1_charAt_3b067_13 : decode cJ1_charAt_3b067 13 = .ok (.i2c, 1) := by decide +kernel
theorem dJ1_charAt_3b067_14 : decode cJ1_charAt_3b067 14 = .ok (.ireturn, 1) := by decide +kernel
theorem dJ2_getChar_3b067_0 : decode cJ2_getChar_3b067 0 = .ok (.getstatic 44, 3) := by decide +kernel
theorem dJ2_getChar_3b067_3 : decode cJ2_getChar_3b067 3 = .ok (.ifCond .ne 25, 3) := by decide +kernel
theorem dJ2_getChar_3b067_6 : decode cJ2_getChar_3b067 6 = .ok (.iload_n 1, 1) := by decide +kernel
theorem dJ2_getChar_3b067_7 : decode cJ2_getChar_3b067 7 = .ok (.ifCond .lt 11, 3) := by decide +kernel
theorem dJ2_getChar_3b067_10 : decode cJ2_getChar_3b067 10 = .ok (.iload_n 1, 1) := by decide +kernel
theorem dJ2_getChar_3b067_11 : decode cJ2_getChar_3b067 11 = .ok (.aload_n 0, 1) := by decide +kernel
theorem dJ2_getChar_3b067_12 : decode cJ2_getChar_3b067 12 = .ok (.invokestatic 48, 3) := by decide +kernel
theorem dJ2_getChar_3b067_15 : decode cJ2_getChar_3b067 15 = .ok (.if_icmp .lt 13, 3) := by decide +kernel
theorem dJ2_getChar_3b067_18 : decode cJ2_getChar_3b067 18 = .ok (.new 52, 3) := by decide +kernel
theorem dJ2_getChar_3b067_21 : decode cJ2_getChar_3b067 21 = .ok (.dup, 1) := by decide +kernel
theorem dJ2_getChar_3b067_22 : decode cJ2_getChar_3b067 22 = .ok (.ldc 54, 2) := by decide +kernel
theorem dJ2_getChar_3b067_24 : decode cJ2_getChar_3b067 24 = .ok (.invokespecial 56, 3) := by decide +kernel
theorem dJ2_getChar_3b067_27 : decode cJ2_getChar_3b067 27 = .ok (.athrow, 1) := by decide +kernel
theorem dJ2_getChar_3b067_28 : decode cJ2_getChar_3b067 28 = .ok (.iload_n 1, 1) := by decide +kernel
theorem dJ2_getChar_3b067_29 : decode cJ2_getChar_3b067 29 = .ok (.iconst 1, 1) := by decide +kernel
theorem dJ2_getChar_3b067_30 : decode cJ2_getChar_3b067 30 = .ok (.ishl, 1) := by decide +kernel
theorem dJ2_getChar_3b067_31 : decode cJ2_getChar_3b067 31 = .ok (.istore_n 1, 1) := by decide +kernel
theorem dJ2_getChar_3b067_32 : decode cJ2_getChar_3b067 32 = .ok (.aload_n 0, 1) := by decide +kernel
theorem dJ2_getChar_3b067_33 : decode cJ2_getChar_3b067 33 = .ok (.iload_n 1, 1) := by decide +kernel
theorem dJ2_getChar_3b067_34 : decode cJ2_getChar_3b067 34 = .ok (.iinc 1 1, 3) := by decide +kernel
theorem dJ2_getChar_3b067_37 : decode cJ2_getChar_3b067 37 = .ok (.baload, 1) := by decide +kernel
theorem dJ2_getChar_3b067_38 : decode cJ2_getChar_3b067 38 = .ok (.sipush 255, 3) := by decide +kernel
theorem dJ2_getChar_3b067_41 : decode cJ2_getChar_3b067 41 = .ok (.iand, 1) := by decide +kernel
theorem dJ2_getChar_3b067_42 : decode cJ2_getChar_3b067 42 = .ok (.getstatic 59, 3) := by decide +kernel
theorem dJ2_getChar_3b067_45 : decode cJ2_getChar_3b067 45 = .ok (.ishl, 1) := by decide +kernel
theorem dJ2_getChar_3b067_46 : decode cJ2_getChar_3b067 46 = .ok (.aload_n 0, 1) := by decide +kernel
theorem dJ2_getChar_3b067_47 : decode cJ2_getChar_3b067 47 = .ok (.iload_n 1, 1) := by decide +kernel
theorem dJ2_getChar_3b067_48 : decode cJ2_getChar_3b067 48 = .ok (.baload, 1) := by decide +kernel
theorem dJ2_getChar_3b067_49 : decode cJ2_getChar_3b067 49 = .ok (.sipush 255, 3) := by decide +kernel
theorem dJ2_getChar_3b067_52 : decode cJ2_getChar_3b067 52 = .ok (.iand, 1) := by decide +kernel
theorem dJ2_getChar_3b067_53 : decode cJ2_getChar_3b067 53 = .ok (.getstatic 63, 3) := by decide +kernel
theorem dJ2_getChar_3b067_56 : decode cJ2_getChar_3b067 56 = .ok (.ishl, 1) := by decide +kernel
theorem dJ2_getChar_3b067_57 : decode cJ2_getChar_3b067 57 = .ok (.ior, 1) := by decide +kernel
theorem dJ2_getChar_3b067_58 : decode cJ2_getChar_3b067 58 = .ok (.i2c, 1) := by decide +kernel
theorem dJ2_getChar_3b067_59 : decode cJ2_getChar_3b067 59 = .ok (.ireturn, 1) := by decide +kernel
theorem dJ2_length_9d52b_0 : decode cJ2_length_9d52b 0 = .ok (.aload_n 0, 1) := by decide +kernel
theorem dJ2_length_9d52b_1 : decode cJ2_length_9d52b 1 = .ok (.arraylength, 1) := by decide +kernel
theorem dJ2_length_9d52b_2 : decode cJ2_length_9d52b 2 = .ok (.iconst 1, 1) := by decide +kernel
theorem dJ2_length_9d52b_3 : decode cJ2_length_9d52b 3 = .ok (.ishr, 1) := by decide +kernel
theorem dJ2_length_9d52b_4 : decode cJ2_length_9d52b 4 = .ok (.ireturn, 1) := by decide +kernel
theorem dJ2_charAt_3b067_0 : decode cJ2_charAt_3b067 0 = .ok (.iload_n 1, 1) := by decide +kernel
theorem dJ2_charAt_3b067_1 : decode cJ2_charAt_3b067 1 = .ok (.aload_n 0, 1) := by decide +kernel
theorem dJ2_charAt_3b067_2 : decode cJ2_charAt_3b067 2 = .ok (.invokestatic 67, 3) := by decide +kernel
theorem dJ2_charAt_3b067_5 : decode cJ2_charAt_3b067 5 = .ok (.aload_n 0, 1) := by decide +kernel
theorem dJ2_charAt_3b067_6 : decode cJ2_charAt_3b067 6 = .ok (.iload_n 1, 1) := by decide +kernel
theorem dJ2_charAt_3b067_7 : decode cJ2_charAt_3b067 7 = .ok (.invokestatic 71, 3) := by decide +kernel
theorem dJ2_charAt_3b067_10 : decode cJ2_charAt_3b067 10 = .ok (.ireturn, 1) := by decide +kernel
theorem dJ2_checkIndex_2214a_0 : decode cJ2_checkIndex_2214a 0 = .ok (.iload_n 0, 1) := by decide +kernel
theorem dJ2_checkIndex_2214a_1 : decode cJ2_checkIndex_2214a 1 = .ok (.aload_n 1, 1) := by decide +kernel
theorem dJ2_checkIndex_2214a_2 : decode cJ2_checkIndex_2214a 2 = .ok (.invokestatic 48, 3) := by decide +kernel
theorem dJ2_checkIndex_2214a_5 : decode cJ2_checkIndex_2214a 5 = .ok (.invokestatic 414, 3) := by decide +kernel
theorem dJ2_checkIndex_2214a_8 : decode cJ2_checkIndex_2214a 8 = .ok (.return_, 1) := by decide +kernel
theorem dJ7_fill_53178_0 : decode cJ7_fill_53178 0 = .ok (.iconst 0, 1) := by decide +kernel
theorem dJ7_fill_53178_1 : decode cJ7_fill_53178 1 = .ok (.istore_n 2, 1) := by decide +kernel
theorem dJ7_fill_53178_2 : decode cJ7_fill_53178 2 = .ok (.aload_n 0, 1) := by decide +kernel
theorem dJ7_fill_53178_3 : decode cJ7_fill_53178 3 = .ok (.arraylength, 1) := by decide +kernel
theorem dJ7_fill_53178_4 : decode cJ7_fill_53178 4 = .ok (.istore_n 3, 1) := by decide +kernel
theorem dJ7_fill_53178_5 : decode cJ7_fill_53178 5 = .ok (.iload_n 2, 1) := by decide +kernel
theorem dJ7_fill_53178_6 : decode cJ7_fill_53178 6 = .ok (.iload_n 3, 1) := by decide +kernel
theorem dJ7_fill_53178_7 : decode cJ7_fill_53178 7 = .ok (.if_icmp .ge 13, 3) := by decide +kernel
theorem dJ7_fill_53178_10 : decode cJ7_fill_53178 10 = .ok (.aload_n 0, 1) := by decide +kernel
theorem dJ7_fill_53178_11 : decode cJ7_fill_53178 11 = .ok (.iload_n 2, 1) := by decide +kernel
theorem dJ7_fill_53178_12 : decode cJ7_fill_53178 12 = .ok (.iload_n 1, 1) := by decide +kernel
theorem dJ7_fill_53178_13 : decode cJ7_fill_53178 13 = .ok (.iastore, 1) := by decide +kernel
theorem dJ7_fill_53178_14 : decode cJ7_fill_53178 14 = .ok (.iinc 2 1, 3) := by decide +kernel
theorem dJ7_fill_53178_17 : decode cJ7_fill_53178 17 = .ok (.goto (-12), 3) := by decide +kernel
theorem dJ7_fill_53178_20 : decode cJ7_fill_53178 20 = .ok (.return_, 1) := by decide +kernel
theorem dJ3_checkIndex_8e157_0 : decode cJ3_checkIndex_8e157 0 = .ok (.iload_n 0, 1) := by decide +kernel
theorem dJ3_checkIndex_8e157_1 : decode cJ3_checkIndex_8e157 1 = .ok (.ifCond .lt 8, 3) := by decide +kernel
theorem dJ3_checkIndex_8e157_4 : decode cJ3_checkIndex_8e157 4 = .ok (.iload_n 0, 1) := by decide +kernel
theorem dJ3_checkIndex_8e157_5 : decode cJ3_checkIndex_8e157 5 = .ok (.iload_n 1, 1) := by decide +kernel
theorem dJ3_checkIndex_8e157_6 : decode cJ3_checkIndex_8e157 6 = .ok (.if_icmp .lt 10, 3) := by decide +kernel
theorem dJ3_checkIndex_8e157_9 : decode cJ3_checkIndex_8e157 9 = .ok (.aload_n 2, 1) := by decide +kernel
theorem dJ3_checkIndex_8e157_10 : decode cJ3_checkIndex_8e157 10 = .ok (.iload_n 0, 1) := by decide +kernel
theorem dJ3_checkIndex_8e157_11 : decode cJ3_checkIndex_8e157 11 = .ok (.iload_n 1, 1) := by decide +kernel
theorem dJ3_checkIndex_8e157_12 : decode cJ3_checkIndex_8e157 12 = .ok (.invokestatic 95, 3) := by decide +kernel
theorem dJ3_checkIndex_8e157_15 : decode cJ3_checkIndex_8e157 15 = .ok (.athrow, 1) := by decide +kernel
theorem dJ3_checkIndex_8e157_16 : decode cJ3_checkIndex_8e157 16 = .ok (.iload_n 0, 1) := by decide +kernel
theorem dJ3_checkIndex_8e157_17 : decode cJ3_checkIndex_8e157 17 = .ok (.ireturn, 1) := by decide +kernel
theorem dL_name_0 : decode cL_name 0 = .ok (.aload_n 3, 1) := by decide +kernel
theorem dL_name_1 : decode cL_name 1 = .ok (.iconst 0, 1) := by decide +kernel
theorem dL_name_2 : decode cL_name 2 = .ok (.aload_n 0, 1) := by decide +kernel
theorem dL_name_3 : decode cL_name 3 = .ok (.iload_n 1, 1) := by decide +kernel
theorem dL_name_4 : decode cL_name 4 = .ok (.iload_n 2, 1) := by decide +kernel
theorem dL_name_5 : decode cL_name 5 = .ok (.invokevirtual 7, 3) := by decide +kernel
theorem dL_name_8 : decode cL_name 8 = .ok (.ifCond .eq 7, 3) := by decide +kernel
theorem dL_name_11 : decode cL_name 11 = .ok (.lconst 1, 1) := by decide +kernel
theorem dL_name_12 : decode cL_name 12 = .ok (.goto 4, 3) := by decide +kernel
theorem dL_name_15 : decode cL_name 15 = .ok (.lconst 0, 1) := by decide +kernel
theorem dL_name_16 : decode cL_name 16 = .ok (.lastore, 1) := by decide +kernel
theorem dL_name_17 : decode cL_name 17 = .ok (.goto 7, 3) := by decide +kernel
theorem dL_name_20 : decode cL_name 20 = .ok (.astore 4, 2) := by decide +kernel
theorem dL_name_22 : decode cL_name 22 = .ok (.iconst 1, 1) := by decide +kernel
theorem dL_name_23 : decode cL_name 23 = .ok (.ireturn, 1) := by decide +kernel
theorem dL_name_24 : decode cL_name 24 = .ok (.iconst 0, 1) := by decide +kernel
theorem dL_name_25 : decode cL_name 25 = .ok (.ireturn, 1) := by decide +kernel
theorem dL_clock_0 : decode cL_clock 0 = .ok (.aload_n 3, 1) := by decide +kernel
theorem dL_clock_1 : decode cL_clock 1 = .ok (.iconst 0, 1) := by decide +kernel
theorem dL_clock_2 : decode cL_clock 2 = .ok (.aload_n 0, 1) := by decide +kernel
theorem dL_clock_3 : decode cL_clock 3 = .ok (.iload_n 1, 1) := by decide +kernel
theorem dL_clock_4 : decode cL_clock 4 = .ok (.iload_n 2, 1) := by decide +kernel
theorem dL_clock_5 : decode cL_clock 5 = .ok (.invokevirtual 15, 3) := by decide +kernel
theorem dL_clock_8 : decode cL_clock 8 = .ok (.i2l, 1) := by decide +kernel
theorem dL_clock_9 : decode cL_clock 9 = .ok (.lastore, 1) := by decide +kernel
theorem dL_clock_10 : decode cL_clock 10 = .ok (.goto 7, 3) := by decide +kernel
theorem dL_clock_13 : decode cL_clock 13 = .ok (.astore 4, 2) := by decide +kernel
theorem dL_clock_15 : decode cL_clock 15 = .ok (.iconst 1, 1) := by decide +kernel
theorem dL_clock_16 : decode cL_clock 16 = .ok (.ireturn, 1) := by decide +kernel
theorem dL_clock_17 : decode cL_clock 17 = .ok (.iconst 0, 1) := by decide +kernel
theorem dL_clock_18 : decode cL_clock 18 = .ok (.ireturn, 1) := by decide +kernel
theorem dL_edge_0 : decode cL_edge 0 = .ok (.aload 4, 2) := by decide +kernel
theorem dL_edge_2 : decode cL_edge 2 = .ok (.iconst 0, 1) := by decide +kernel
theorem dL_edge_3 : decode cL_edge 3 = .ok (.aload_n 0, 1) := by decide +kernel
theorem dL_edge_4 : decode cL_edge 4 = .ok (.iload_n 1, 1) := by decide +kernel
theorem dL_edge_5 : decode cL_edge 5 = .ok (.iload_n 2, 1) := by decide +kernel
theorem dL_edge_6 : decode cL_edge 6 = .ok (.iload_n 3, 1) := by decide +kernel
theorem dL_edge_7 : decode cL_edge 7 = .ok (.invokevirtual 19, 3) := by decide +kernel
theorem dL_edge_10 : decode cL_edge 10 = .ok (.lastore, 1) := by decide +kernel
theorem dL_edge_11 : decode cL_edge 11 = .ok (.goto 7, 3) := by decide +kernel
theorem dL_edge_14 : decode cL_edge 14 = .ok (.astore 5, 2) := by decide +kernel
theorem dL_edge_16 : decode cL_edge 16 = .ok (.iconst 1, 1) := by decide +kernel
theorem dL_edge_17 : decode cL_edge 17 = .ok (.ireturn, 1) := by decide +kernel
theorem dL_edge_18 : decode cL_edge 18 = .ok (.iconst 0, 1) := by decide +kernel
theorem dL_edge_19 : decode cL_edge 19 = .ok (.ireturn, 1) := by decide +kernel
theorem dL_distance_0 : decode cL_distance 0 = .ok (.aload 4, 2) := by decide +kernel
theorem dL_distance_2 : decode cL_distance 2 = .ok (.iconst 0, 1) := by decide +kernel
theorem dL_distance_3 : decode cL_distance 3 = .ok (.aload_n 0, 1) := by decide +kernel
theorem dL_distance_4 : decode cL_distance 4 = .ok (.iload_n 1, 1) := by decide +kernel
theorem dL_distance_5 : decode cL_distance 5 = .ok (.iload_n 2, 1) := by decide +kernel
theorem dL_distance_6 : decode cL_distance 6 = .ok (.iload_n 3, 1) := by decide +kernel
theorem dL_distance_7 : decode cL_distance 7 = .ok (.invokevirtual 23, 3) := by decide +kernel
theorem dL_distance_10 : decode cL_distance 10 = .ok (.lastore, 1) := by decide +kernel
theorem dL_distance_11 : decode cL_distance 11 = .ok (.goto 7, 3) := by decide +kernel
theorem dL_distance_14 : decode cL_distance 14 = .ok (.astore 5, 2) := by decide +kernel
theorem dL_distance_16 : decode cL_distance 16 = .ok (.iconst 1, 1) := by decide +kernel
theorem dL_distance_17 : decode cL_distance 17 = .ok (.ireturn, 1) := by decide +kernel
theorem dL_distance_18 : decode cL_distance 18 = .ok (.iconst 0, 1) := by decide +kernel
theorem dL_distance_19 : decode cL_distance 19 = .ok (.ireturn, 1) := by decide +kernel
theorem dL_exception_0 : decode cL_exception 0 = .ok (.aload 4, 2) := by decide +kernel
theorem dL_exception_2 : decode cL_exception 2 = .ok (.iconst 0, 1) := by decide +kernel
theorem dL_exception_3 : decode cL_exception 3 = .ok (.aload_n 0, 1) := by decide +kernel
theorem dL_exception_4 : decode cL_exception 4 = .ok (.iload_n 1, 1) := by decide +kernel
theorem dL_exception_5 : decode cL_exception 5 = .ok (.iload_n 2, 1) := by decide +kernel
theorem dL_exception_6 : decode cL_exception 6 = .ok (.iload_n 3, 1) := by decide +kernel
theorem dL_exception_7 : decode cL_exception 7 = .ok (.invokevirtual 26, 3) := by decide +kernel
theorem dL_exception_10 : decode cL_exception 10 = .ok (.i2l, 1) := by decide +kernel
theorem dL_exception_11 : decode cL_exception 11 = .ok (.lastore, 1) := by decide +kernel
theorem dL_exception_12 : decode cL_exception 12 = .ok (.goto 7, 3) := by decide +kernel
theorem dL_exception_15 : decode cL_exception 15 = .ok (.astore 5, 2) := by decide +kernel
theorem dL_exception_17 : decode cL_exception 17 = .ok (.iconst 1, 1) := by decide +kernel
theorem dL_exception_18 : decode cL_exception 18 = .ok (.ireturn, 1) := by decide +kernel
theorem dL_exception_19 : decode cL_exception 19 = .ok (.iconst 0, 1) := by decide +kernel
theorem dL_exception_20 : decode cL_exception 20 = .ok (.ireturn, 1) := by decide +kernel
theorem dL_row_0 : decode cL_row 0 = .ok (.aload_n 3, 1) := by decide +kernel
theorem dL_row_1 : decode cL_row 1 = .ok (.iconst 0, 1) := by decide +kernel
theorem dL_row_2 : decode cL_row 2 = .ok (.aload_n 0, 1) := by decide +kernel
theorem dL_row_3 : decode cL_row 3 = .ok (.iload_n 1, 1) := by decide +kernel
theorem dL_row_4 : decode cL_row 4 = .ok (.iload_n 2, 1) := by decide +kernel
theorem dL_row_5 : decode cL_row 5 = .ok (.invokevirtual 30, 3) := by decide +kernel
theorem dL_row_8 : decode cL_row 8 = .ok (.i2l, 1) := by decide +kernel
theorem dL_row_9 : decode cL_row 9 = .ok (.lastore, 1) := by decide +kernel
theorem dL_row_10 : decode cL_row 10 = .ok (.goto 7, 3) := by decide +kernel
theorem dL_row_13 : decode cL_row 13 = .ok (.astore 4, 2) := by decide +kernel
theorem dL_row_15 : decode cL_row 15 = .ok (.iconst 1, 1) := by decide +kernel
theorem dL_row_16 : decode cL_row 16 = .ok (.ireturn, 1) := by decide +kernel
theorem dL_row_17 : decode cL_row 17 = .ok (.iconst 0, 1) := by decide +kernel
theorem dL_row_18 : decode cL_row 18 = .ok (.ireturn, 1) := by decide +kernel
theorem dL_load_0 : decode cL_load 0 = .ok (.aload_n 3, 1) := by decide +kernel
theorem dL_load_1 : decode cL_load 1 = .ok (.iconst 0, 1) := by decide +kernel
theorem dL_load_2 : decode cL_load 2 = .ok (.aload_n 0, 1) := by decide +kernel
theorem dL_load_3 : decode cL_load 3 = .ok (.iload_n 1, 1) := by decide +kernel
theorem dL_load_4 : decode cL_load 4 = .ok (.iload_n 2, 1) := by decide +kernel
theorem dL_load_5 : decode cL_load 5 = .ok (.invokevirtual 33, 3) := by decide +kernel
theorem dL_load_8 : decode cL_load 8 = .ok (.i2l, 1) := by decide +kernel
theorem dL_load_9 : decode cL_load 9 = .ok (.lastore, 1) := by decide +kernel
theorem dL_load_10 : decode cL_load 10 = .ok (.goto 7, 3) := by decide +kernel
theorem dL_load_13 : decode cL_load 13 = .ok (.astore 4, 2) := by decide +kernel
theorem dL_load_15 : decode cL_load 15 = .ok (.iconst 1, 1) := by decide +kernel
theorem dL_load_16 : decode cL_load 16 = .ok (.ireturn, 1) := by decide +kernel
theorem dL_load_17 : decode cL_load 17 = .ok (.iconst 0, 1) := by decide +kernel
theorem dL_load_18 : decode cL_load 18 = .ok (.ireturn, 1) := by decide +kernel
theorem dL_unmatched_0 : decode cL_unmatched 0 = .ok (.aload_n 2, 1) := by decide +kernel
theorem dL_unmatched_1 : decode cL_unmatched 1 = .ok (.iconst 0, 1) := by decide +kernel
theorem dL_unmatched_2 : decode cL_unmatched 2 = .ok (.aload_n 0, 1) := by decide +kernel
theorem dL_unmatched_3 : decode cL_unmatched 3 = .ok (.iload_n 1, 1) := by decide +kernel
theorem dL_unmatched_4 : decode cL_unmatched 4 = .ok (.invokevirtual 36, 3) := by decide +kernel
theorem dL_unmatched_7 : decode cL_unmatched 7 = .ok (.i2l, 1) := by decide +kernel
theorem dL_unmatched_8 : decode cL_unmatched 8 = .ok (.lastore, 1) := by decide +kernel
theorem dL_unmatched_9 : decode cL_unmatched 9 = .ok (.goto 6, 3) := by decide +kernel
theorem dL_unmatched_12 : decode cL_unmatched 12 = .ok (.astore_n 3, 1) := by decide +kernel
theorem dL_unmatched_13 : decode cL_unmatched 13 = .ok (.iconst 1, 1) := by decide +kernel
theorem dL_unmatched_14 : decode cL_unmatched 14 = .ok (.ireturn, 1) := by decide +kernel
theorem dL_unmatched_15 : decode cL_unmatched 15 = .ok (.iconst 0, 1) := by decide +kernel
theorem dL_unmatched_16 : decode cL_unmatched 16 = .ok (.ireturn, 1) := by decide +kernel
theorem dL_clash_0 : decode cL_clash 0 = .ok (.aload_n 3, 1) := by decide +kernel
theorem dL_clash_1 : decode cL_clash 1 = .ok (.iconst 0, 1) := by decide +kernel
theorem dL_clash_2 : decode cL_clash 2 = .ok (.aload_n 0, 1) := by decide +kernel
theorem dL_clash_3 : decode cL_clash 3 = .ok (.iload_n 1, 1) := by decide +kernel
theorem dL_clash_4 : decode cL_clash 4 = .ok (.iload_n 2, 1) := by decide +kernel
theorem dL_clash_5 : decode cL_clash 5 = .ok (.invokevirtual 40, 3) := by decide +kernel
theorem dL_clash_8 : decode cL_clash 8 = .ok (.i2l, 1) := by decide +kernel
theorem dL_clash_9 : decode cL_clash 9 = .ok (.lastore, 1) := by decide +kernel
theorem dL_clash_10 : decode cL_clash 10 = .ok (.goto 7, 3) := by decide +kernel
theorem dL_clash_13 : decode cL_clash 13 = .ok (.astore 4, 2) := by decide +kernel
theorem dL_clash_15 : decode cL_clash 15 = .ok (.iconst 1, 1) := by decide +kernel
theorem dL_clash_16 : decode cL_clash 16 = .ok (.ireturn, 1) := by decide +kernel
theorem dL_clash_17 : decode cL_clash 17 = .ok (.iconst 0, 1) := by decide +kernel
theorem dL_clash_18 : decode cL_clash 18 = .ok (.ireturn, 1) := by decide +kernel
theorem dL_write_0 : decode cL_write 0 = .ok (.aload_n 2, 1) := by decide +kernel
theorem dL_write_1 : decode cL_write 1 = .ok (.iconst 0, 1) := by decide +kernel
theorem dL_write_2 : decode cL_write 2 = .ok (.aload_n 0, 1) := by decide +kernel
theorem dL_write_3 : decode cL_write 3 = .ok (.iload_n 1, 1) := by decide +kernel
theorem dL_write_4 : decode cL_write 4 = .ok (.invokevirtual 43, 3) := by decide +kernel
theorem dL_write_7 : decode cL_write 7 = .ok (.i2l, 1) := by decide +kernel
theorem dL_write_8 : decode cL_write 8 = .ok (.lastore, 1) := by decide +kernel
theorem dL_write_9 : decode cL_write 9 = .ok (.goto 6, 3) := by decide +kernel
theorem dL_write_12 : decode cL_write 12 = .ok (.astore_n 3, 1) := by decide +kernel
theorem dL_write_13 : decode cL_write 13 = .ok (.iconst 1, 1) := by decide +kernel
theorem dL_write_14 : decode cL_write 14 = .ok (.ireturn, 1) := by decide +kernel
theorem dL_write_15 : decode cL_write 15 = .ok (.iconst 0, 1) := by decide +kernel
theorem dL_write_16 : decode cL_write 16 = .ok (.ireturn, 1) := by decide +kernel
theorem dL_count_0 : decode cL_count 0 = .ok (.aload_n 2, 1) := by decide +kernel
theorem dL_count_1 : decode cL_count 1 = .ok (.iconst 0, 1) := by decide +kernel
theorem dL_count_2 : decode cL_count 2 = .ok (.aload_n 0, 1) := by decide +kernel
theorem dL_count_3 : decode cL_count 3 = .ok (.iload_n 1, 1) := by decide +kernel
theorem dL_count_4 : decode cL_count 4 = .ok (.invokevirtual 46, 3) := by decide +kernel
theorem dL_count_7 : decode cL_count 7 = .ok (.i2l, 1) := by decide +kernel
theorem dL_count_8 : decode cL_count 8 = .ok (.lastore, 1) := by decide +kernel
theorem dL_count_9 : decode cL_count 9 = .ok (.goto 6, 3) := by decide +kernel
theorem dL_count_12 : decode cL_count 12 = .ok (.astore_n 3, 1) := by decide +kernel
theorem dL_count_13 : decode cL_count 13 = .ok (.iconst 1, 1) := by decide +kernel
theorem dL_count_14 : decode cL_count 14 = .ok (.ireturn, 1) := by decide +kernel
theorem dL_count_15 : decode cL_count 15 = .ok (.iconst 0, 1) := by decide +kernel
theorem dL_count_16 : decode cL_count 16 = .ok (.ireturn, 1) := by decide +kernel
theorem dL_law_0 : decode cL_law 0 = .ok (.new 8, 3) := by decide +kernel
theorem dL_law_3 : decode cL_law 3 = .ok (.dup, 1) := by decide +kernel
theorem dL_law_4 : decode cL_law 4 = .ok (.invokespecial 49, 3) := by decide +kernel
theorem dL_law_7 : decode cL_law 7 = .ok (.astore_n 1, 1) := by decide +kernel
theorem dL_law_8 : decode cL_law 8 = .ok (.new 50, 3) := by decide +kernel
theorem dL_law_11 : decode cL_law 11 = .ok (.dup, 1) := by decide +kernel
theorem dL_law_12 : decode cL_law 12 = .ok (.invokespecial 52, 3) := by decide +kernel
theorem dL_law_15 : decode cL_law 15 = .ok (.astore_n 2, 1) := by decide +kernel
theorem dL_law_16 : decode cL_law 16 = .ok (.iconst 1, 1) := by decide +kernel
theorem dL_law_17 : decode cL_law 17 = .ok (.newarray .long, 2) := by decide +kernel
theorem dL_law_19 : decode cL_law 19 = .ok (.astore_n 3, 1) := by decide +kernel
theorem dL_law_20 : decode cL_law 20 = .ok (.iconst 0, 1) := by decide +kernel
theorem dL_law_21 : decode cL_law 21 = .ok (.istore 4, 2) := by decide +kernel
theorem dL_law_23 : decode cL_law 23 = .ok (.iload 4, 2) := by decide +kernel
theorem dL_law_25 : decode cL_law 25 = .ok (.aload_n 0, 1) := by decide +kernel
theorem dL_law_26 : decode cL_law 26 = .ok (.arraylength, 1) := by decide +kernel
theorem dL_law_27 : decode cL_law 27 = .ok (.iconst 4, 1) := by decide +kernel
theorem dL_law_28 : decode cL_law 28 = .ok (.isub, 1) := by decide +kernel
theorem dL_law_29 : decode cL_law 29 = .ok (.if_icmp .gt 901, 3) := by decide +kernel
theorem dL_law_32 : decode cL_law 32 = .ok (.aload_n 0, 1) := by decide +kernel
theorem dL_law_33 : decode cL_law 33 = .ok (.iload 4, 2) := by decide +kernel
theorem dL_law_35 : decode cL_law 35 = .ok (.iaload, 1) := by decide +kernel
theorem dL_law_36 : decode cL_law 36 = .ok (.bipush 15, 2) := by decide +kernel
theorem dL_law_38 : decode cL_law 38 = .ok (.iand, 1) := by decide +kernel
theorem dL_law_39 : decode cL_law 39 = .ok (.tableswitch 885 0 13 #[69, 94, 119, 194, 207, 275, 354, 433, 513, 581, 649, 705, 773, 829], 69) := by decide +kernel
theorem dL_law_108 : decode cL_law 108 = .ok (.aload_n 1, 1) := by decide +kernel
theorem dL_law_109 : decode cL_law 109 = .ok (.aload_n 0, 1) := by decide +kernel
theorem dL_law_110 : decode cL_law 110 = .ok (.iload 4, 2) := by decide +kernel
theorem dL_law_112 : decode cL_law 112 = .ok (.iconst 1, 1) := by decide +kernel
theorem dL_law_113 : decode cL_law 113 = .ok (.iadd, 1) := by decide +kernel
theorem dL_law_114 : decode cL_law 114 = .ok (.iaload, 1) := by decide +kernel
theorem dL_law_115 : decode cL_law 115 = .ok (.invokevirtual 53, 3) := by decide +kernel
theorem dL_law_118 : decode cL_law 118 = .ok (.aload_n 2, 1) := by decide +kernel
theorem dL_law_119 : decode cL_law 119 = .ok (.aload_n 0, 1) := by decide +kernel
theorem dL_law_120 : decode cL_law 120 = .ok (.iload 4, 2) := by decide +kernel
theorem dL_law_122 : decode cL_law 122 = .ok (.iconst 1, 1) := by decide +kernel
theorem dL_law_123 : decode cL_law 123 = .ok (.iadd, 1) := by decide +kernel
theorem dL_law_124 : decode cL_law 124 = .ok (.iaload, 1) := by decide +kernel
theorem dL_law_125 : decode cL_law 125 = .ok (.invokevirtual 57, 3) := by decide +kernel
theorem dL_law_128 : decode cL_law 128 = .ok (.if_icmp .eq 796, 3) := by decide +kernel
theorem dL_law_131 : decode cL_law 131 = .ok (.iconst 0, 1) := by decide +kernel
theorem dL_law_132 : decode cL_law 132 = .ok (.ireturn, 1) := by decide +kernel
theorem dL_law_133 : decode cL_law 133 = .ok (.aload_n 1, 1) := by decide +kernel
theorem dL_law_134 : decode cL_law 134 = .ok (.aload_n 0, 1) := by decide +kernel
theorem dL_law_135 : decode cL_law 135 = .ok (.iload 4, 2) := by decide +kernel
theorem dL_law_137 : decode cL_law 137 = .ok (.iconst 1, 1) := by decide +kernel
theorem dL_law_138 : decode cL_law 138 = .ok (.iadd, 1) := by decide +kernel
theorem dL_law_139 : decode cL_law 139 = .ok (.iaload, 1) := by decide +kernel
theorem dL_law_140 : decode cL_law 140 = .ok (.invokevirtual 58, 3) := by decide +kernel
theorem dL_law_143 : decode cL_law 143 = .ok (.aload_n 2, 1) := by decide +kernel
theorem dL_law_144 : decode cL_law 144 = .ok (.aload_n 0, 1) := by decide +kernel
theorem dL_law_145 : decode cL_law 145 = .ok (.iload 4, 2) := by decide +kernel
theorem dL_law_147 : decode cL_law 147 = .ok (.iconst 1, 1) := by decide +kernel
theorem dL_law_148 : decode cL_law 148 = .ok (.iadd, 1) := by decide +kernel
theorem dL_law_149 : decode cL_law 149 = .ok (.iaload, 1) := by decide +kernel
theorem dL_law_150 : decode cL_law 150 = .ok (.invokevirtual 61, 3) := by decide +kernel
theorem dL_law_153 : decode cL_law 153 = .ok (.if_icmp .eq 771, 3) := by decide +kernel
theorem dL_law_156 : decode cL_law 156 = .ok (.iconst 0, 1) := by decide +kernel
theorem dL_law_157 : decode cL_law 157 = .ok (.ireturn, 1) := by decide +kernel
theorem dL_law_158 : decode cL_law 158 = .ok (.aload_n 1, 1) := by decide +kernel
theorem dL_law_159 : decode cL_law 159 = .ok (.aload_n 0, 1) := by decide +kernel
theorem dL_law_160 : decode cL_law 160 = .ok (.iload 4, 2) := by decide +kernel
theorem dL_law_162 : decode cL_law 162 = .ok (.iconst 1, 1) := by decide +kernel
theorem dL_law_163 : decode cL_law 163 = .ok (.iadd, 1) := by decide +kernel
theorem dL_law_164 : decode cL_law 164 = .ok (.iaload, 1) := by decide +kernel
theorem dL_law_165 : decode cL_law 165 = .ok (.aload_n 0, 1) := by decide +kernel
theorem dL_law_166 : decode cL_law 166 = .ok (.iload 4, 2) := by decide +kernel
theorem dL_law_168 : decode cL_law 168 = .ok (.iconst 2, 1) := by decide +kernel
theorem dL_law_169 : decode cL_law 169 = .ok (.iadd, 1) := by decide +kernel
theorem dL_law_170 : decode cL_law 170 = .ok (.iaload, 1) := by decide +kernel
theorem dL_law_171 : decode cL_law 171 = .ok (.aload_n 3, 1) := by decide +kernel
theorem dL_law_172 : decode cL_law 172 = .ok (.invokestatic 62, 3) := by decide +kernel
theorem dL_law_175 : decode cL_law 175 = .ok (.istore 5, 2) := by decide +kernel
theorem dL_law_177 : decode cL_law 177 = .ok (.aload_n 2, 1) := by decide +kernel
theorem dL_law_178 : decode cL_law 178 = .ok (.aload_n 0, 1) := by decide +kernel
theorem dL_law_179 : decode cL_law 179 = .ok (.iload 4, 2) := by decide +kernel
theorem dL_law_181 : decode cL_law 181 = .ok (.iconst 1, 1) := by decide +kernel
theorem dL_law_182 : decode cL_law 182 = .ok (.iadd, 1) := by decide +kernel
theorem dL_law_183 : decode cL_law 183 = .ok (.iaload, 1) := by decide +kernel
theorem dL_law_184 : decode cL_law 184 = .ok (.aload_n 0, 1) := by decide +kernel
theorem dL_law_185 : decode cL_law 185 = .ok (.iload 4, 2) := by decide +kernel
theorem dL_law_187 : decode cL_law 187 = .ok (.iconst 2, 1) := by decide +kernel
theorem dL_law_188 : decode cL_law 188 = .ok (.iadd, 1) := by decide +kernel
theorem dL_law_189 : decode cL_law 189 = .ok (.iaload, 1) := by decide +kernel
theorem dL_law_190 : decode cL_law 190 = .ok (.invokevirtual 67, 3) := by decide +kernel
theorem dL_law_193 : decode cL_law 193 = .ok (.istore 6, 2) := by decide +kernel
theorem dL_law_195 : decode cL_law 195 = .ok (.aload_n 2, 1) := by decide +kernel
theorem dL_law_196 : decode cL_law 196 = .ok (.invokevirtual 68, 3) := by decide +kernel
theorem dL_law_199 : decode cL_law 199 = .ok (.iload 5, 2) := by decide +kernel
theorem dL_law_201 : decode cL_law 201 = .ok (.if_icmp .eq 5, 3) := by decide +kernel
theorem dL_law_204 : decode cL_law 204 = .ok (.iconst 0, 1) := by decide +kernel
theorem dL_law_205 : decode cL_law 205 = .ok (.ireturn, 1) := by decide +kernel
theorem dL_law_206 : decode cL_law 206 = .ok (.iload 5, 2) := by decide +kernel
theorem dL_law_208 : decode cL_law 208 = .ok (.ifCond .ne 22, 3) := by decide +kernel
theorem dL_law_211 : decode cL_law 211 = .ok (.aload_n 3, 1) := by decide +kernel
theorem dL_law_212 : decode cL_law 212 = .ok (.iconst 0, 1) := by decide +kernel
theorem dL_law_213 : decode cL_law 213 = .ok (.laload, 1) := by decide +kernel
theorem dL_law_214 : decode cL_law 214 = .ok (.iload 6, 2) := by decide +kernel
theorem dL_law_216 : decode cL_law 216 = .ok (.ifCond .eq 7, 3) := by decide +kernel
theorem dL_law_219 : decode cL_law 219 = .ok (.lconst 1, 1) := by decide +kernel
theorem dL_law_220 : decode cL_law 220 = .ok (.goto 4, 3) := by decide +kernel
theorem dL_law_223 : decode cL_law 223 = .ok (.lconst 0, 1) := by decide +kernel
theorem dL_law_224 : decode cL_law 224 = .ok (.lcmp, 1) := by decide +kernel
theorem dL_law_225 : decode cL_law 225 = .ok (.ifCond .eq 5, 3) := by decide +kernel
theorem dL_law_228 : decode cL_law 228 = .ok (.iconst 0, 1) := by decide +kernel
theorem dL_law_229 : decode cL_law 229 = .ok (.ireturn, 1) := by decide +kernel
theorem dL_law_230 : decode cL_law 230 = .ok (.goto 694, 3) := by decide +kernel
theorem dL_law_233 : decode cL_law 233 = .ok (.aload_n 1, 1) := by decide +kernel
theorem dL_law_234 : decode cL_law 234 = .ok (.invokevirtual 72, 3) := by decide +kernel
theorem dL_law_237 : decode cL_law 237 = .ok (.aload_n 2, 1) := by decide +kernel
theorem dL_law_238 : decode cL_law 238 = .ok (.invokevirtual 75, 3) := by decide +kernel
theorem dL_law_241 : decode cL_law 241 = .ok (.if_icmp .eq 683, 3) := by decide +kernel
theorem dL_law_244 : decode cL_law 244 = .ok (.iconst 0, 1) := by decide +kernel
theorem dL_law_245 : decode cL_law 245 = .ok (.ireturn, 1) := by decide +kernel
theorem dL_law_246 : decode cL_law 246 = .ok (.aload_n 1, 1) := by decide +kernel
theorem dL_law_247 : decode cL_law 247 = .ok (.aload_n 0, 1) := by decide +kernel
theorem dL_law_248 : decode cL_law 248 = .ok (.iload 4, 2) := by decide +kernel
theorem dL_law_250 : decode cL_law 250 = .ok (.iconst 1, 1) := by decide +kernel
theorem dL_law_251 : decode cL_law 251 = .ok (.iadd, 1) := by decide +kernel
theorem dL_law_252 : decode cL_law 252 = .ok (.iaload, 1) := by decide +kernel
theorem dL_law_253 : decode cL_law 253 = .ok (.aload_n 0, 1) := by decide +kernel
theorem dL_law_254 : decode cL_law 254 = .ok (.iload 4, 2) := by decide +kernel
theorem dL_law_256 : decode cL_law 256 = .ok (.iconst 2, 1) := by decide +kernel
theorem dL_law_257 : decode cL_law 257 = .ok (.iadd, 1) := by decide +kernel
theorem dL_law_258 : decode cL_law 258 = .ok (.iaload, 1) := by decide +kernel
theorem dL_law_259 : decode cL_law 259 = .ok (.aload_n 3, 1) := by decide +kernel
theorem dL_law_260 : decode cL_law 260 = .ok (.invokestatic 76, 3) := by decide +kernel
theorem dL_law_263 : decode cL_law 263 = .ok (.istore 5, 2) := by decide +kernel
theorem dL_law_265 : decode cL_law 265 = .ok (.aload_n 2, 1) := by decide +kernel
theorem dL_law_266 : decode cL_law 266 = .ok (.aload_n 0, 1) := by decide +kernel
theorem dL_law_267 : decode cL_law 267 = .ok (.iload 4, 2) := by decide +kernel
theorem dL_law_269 : decode cL_law 269 = .ok (.iconst 1, 1) := by decide +kernel
theorem dL_law_270 : decode cL_law 270 = .ok (.iadd, 1) := by decide +kernel
theorem dL_law_271 : decode cL_law 271 = .ok (.iaload, 1) := by decide +kernel
theorem dL_law_272 : decode cL_law 272 = .ok (.aload_n 0, 1) := by decide +kernel
theorem dL_law_273 : decode cL_law 273 = .ok (.iload 4, 2) := by decide +kernel
theorem dL_law_275 : decode cL_law 275 = .ok (.iconst 2, 1) := by decide +kernel
theorem dL_law_276 : decode cL_law 276 = .ok (.iadd, 1) := by decide +kernel
theorem dL_law_277 : decode cL_law 277 = .ok (.iaload, 1) := by decide +kernel
theorem dL_law_278 : decode cL_law 278 = .ok (.invokevirtual 78, 3) := by decide +kernel
theorem dL_law_281 : decode cL_law 281 = .ok (.istore 6, 2) := by decide +kernel
theorem dL_law_283 : decode cL_law 283 = .ok (.aload_n 2, 1) := by decide +kernel
theorem dL_law_284 : decode cL_law 284 = .ok (.invokevirtual 68, 3) := by decide +kernel
theorem dL_law_287 : decode cL_law 287 = .ok (.iload 5, 2) := by decide +kernel
theorem dL_law_289 : decode cL_law 289 = .ok (.if_icmp .eq 5, 3) := by decide +kernel
theorem dL_law_292 : decode cL_law 292 = .ok (.iconst 0, 1) := by decide +kernel
theorem dL_law_293 : decode cL_law 293 = .ok (.ireturn, 1) := by decide +kernel
theorem dL_law_294 : decode cL_law 294 = .ok (.iload 5, 2) := by decide +kernel
theorem dL_law_296 : decode cL_law 296 = .ok (.ifCond .ne 15, 3) := by decide +kernel
theorem dL_law_299 : decode cL_law 299 = .ok (.aload_n 3, 1) := by decide +kernel
theorem dL_law_300 : decode cL_law 300 = .ok (.iconst 0, 1) := by decide +kernel
theorem dL_law_301 : decode cL_law 301 = .ok (.laload, 1) := by decide +kernel
theorem dL_law_302 : decode cL_law 302 = .ok (.iload 6, 2) := by decide +kernel
theorem dL_law_304 : decode cL_law 304 = .ok (.i2l, 1) := by decide +kernel
theorem dL_law_305 : decode cL_law 305 = .ok (.lcmp, 1) := by decide +kernel
theorem dL_law_306 : decode cL_law 306 = .ok (.ifCond .eq 5, 3) := by decide +kernel
theorem dL_law_309 : decode cL_law 309 = .ok (.iconst 0, 1) := by decide +kernel
theorem dL_law_310 : decode cL_law 310 = .ok (.ireturn, 1) := by decide +kernel
theorem dL_law_311 : decode cL_law 311 = .ok (.goto 613, 3) := by decide +kernel
theorem dL_law_314 : decode cL_law 314 = .ok (.aload_n 1, 1) := by decide +kernel
theorem dL_law_315 : decode cL_law 315 = .ok (.aload_n 0, 1) := by decide +kernel
theorem dL_law_316 : decode cL_law 316 = .ok (.iload 4, 2) := by decide +kernel
theorem dL_law_318 : decode cL_law 318 = .ok (.iconst 1, 1) := by decide +kernel
theorem dL_law_319 : decode cL_law 319 = .ok (.iadd, 1) := by decide +kernel
theorem dL_law_320 : decode cL_law 320 = .ok (.iaload, 1) := by decide +kernel
theorem dL_law_321 : decode cL_law 321 = .ok (.aload_n 0, 1) := by decide +kernel
theorem dL_law_322 : decode cL_law 322 = .ok (.iload 4, 2) := by decide +kernel
theorem dL_law_324 : decode cL_law 324 = .ok (.iconst 2, 1) := by decide +kernel
theorem dL_law_325 : decode cL_law 325 = .ok (.iadd, 1) := by decide +kernel
theorem dL_law_326 : decode cL_law 326 = .ok (.iaload, 1) := by decide +kernel
theorem dL_law_327 : decode cL_law 327 = .ok (.aload_n 0, 1) := by decide +kernel
theorem dL_law_328 : decode cL_law 328 = .ok (.iload 4, 2) := by decide +kernel
theorem dL_law_330 : decode cL_law 330 = .ok (.iconst 3, 1) := by decide +kernel
theorem dL_law_331 : decode cL_law 331 = .ok (.iadd, 1) := by decide +kernel
theorem dL_law_332 : decode cL_law 332 = .ok (.iaload, 1) := by decide +kernel
theorem dL_law_333 : decode cL_law 333 = .ok (.aload_n 3, 1) := by decide +kernel
theorem dL_law_334 : decode cL_law 334 = .ok (.invokestatic 79, 3) := by decide +kernel
theorem dL_law_337 : decode cL_law 337 = .ok (.istore 5, 2) := by decide +kernel
theorem dL_law_339 : decode cL_law 339 = .ok (.aload_n 2, 1) := by decide +kernel
theorem dL_law_340 : decode cL_law 340 = .ok (.aload_n 0, 1) := by decide +kernel
theorem dL_law_341 : decode cL_law 341 = .ok (.iload 4, 2) := by decide +kernel
theorem dL_law_343 : decode cL_law 343 = .ok (.iconst 1, 1) := by decide +kernel
theorem dL_law_344 : decode cL_law 344 = .ok (.iadd, 1) := by decide +kernel
theorem dL_law_345 : decode cL_law 345 = .ok (.iaload, 1) := by decide +kernel
theorem dL_law_346 : decode cL_law 346 = .ok (.aload_n 0, 1) := by decide +kernel
theorem dL_law_347 : decode cL_law 347 = .ok (.iload 4, 2) := by decide +kernel
theorem dL_law_349 : decode cL_law 349 = .ok (.iconst 2, 1) := by decide +kernel
theorem dL_law_350 : decode cL_law 350 = .ok (.iadd, 1) := by decide +kernel
theorem dL_law_351 : decode cL_law 351 = .ok (.iaload, 1) := by decide +kernel
theorem dL_law_352 : decode cL_law 352 = .ok (.aload_n 0, 1) := by decide +kernel
theorem dL_law_353 : decode cL_law 353 = .ok (.iload 4, 2) := by decide +kernel
theorem dL_law_355 : decode cL_law 355 = .ok (.iconst 3, 1) := by decide +kernel
theorem dL_law_356 : decode cL_law 356 = .ok (.iadd, 1) := by decide +kernel
theorem dL_law_357 : decode cL_law 357 = .ok (.iaload, 1) := by decide +kernel
theorem dL_law_358 : decode cL_law 358 = .ok (.invokevirtual 82, 3) := by decide +kernel
theorem dL_law_361 : decode cL_law 361 = .ok (.lstore 6, 2) := by decide +kernel
theorem dL_law_363 : decode cL_law 363 = .ok (.aload_n 2, 1) := by decide +kernel
theorem dL_law_364 : decode cL_law 364 = .ok (.invokevirtual 68, 3) := by decide +kernel
theorem dL_law_367 : decode cL_law 367 = .ok (.iload 5, 2) := by decide +kernel
theorem dL_law_369 : decode cL_law 369 = .ok (.if_icmp .eq 5, 3) := by decide +kernel
theorem dL_law_372 : decode cL_law 372 = .ok (.iconst 0, 1) := by decide +kernel
theorem dL_law_373 : decode cL_law 373 = .ok (.ireturn, 1) := by decide +kernel
theorem dL_law_374 : decode cL_law 374 = .ok (.iload 5, 2) := by decide +kernel
theorem dL_law_376 : decode cL_law 376 = .ok (.ifCond .ne 14, 3) := by decide +kernel
theorem dL_law_379 : decode cL_law 379 = .ok (.aload_n 3, 1) := by decide +kernel
theorem dL_law_380 : decode cL_law 380 = .ok (.iconst 0, 1) := by decide +kernel
theorem dL_law_381 : decode cL_law 381 = .ok (.laload, 1) := by decide +kernel
theorem dL_law_382 : decode cL_law 382 = .ok (.lload 6, 2) := by decide +kernel
theorem dL_law_384 : decode cL_law 384 = .ok (.lcmp, 1) := by decide +kernel
theorem dL_law_385 : decode cL_law 385 = .ok (.ifCond .eq 5, 3) := by decide +kernel
theorem dL_law_388 : decode cL_law 388 = .ok (.iconst 0, 1) := by decide +kernel
theorem dL_law_389 : decode cL_law 389 = .ok (.ireturn, 1) := by decide +kernel
theorem dL_law_390 : decode cL_law 390 = .ok (.goto 534, 3) := by decide +kernel
theorem dL_law_393 : decode cL_law 393 = .ok (.aload_n 1, 1) := by decide +kernel
theorem dL_law_394 : decode cL_law 394 = .ok (.aload_n 0, 1) := by decide +kernel
theorem dL_law_395 : decode cL_law 395 = .ok (.iload 4, 2) := by decide +kernel
theorem dL_law_397 : decode cL_law 397 = .ok (.iconst 1, 1) := by decide +kernel
theorem dL_law_398 : decode cL_law 398 = .ok (.iadd, 1) := by decide +kernel
theorem dL_law_399 : decode cL_law 399 = .ok (.iaload, 1) := by decide +kernel
theorem dL_law_400 : decode cL_law 400 = .ok (.aload_n 0, 1) := by decide +kernel
theorem dL_law_401 : decode cL_law 401 = .ok (.iload 4, 2) := by decide +kernel
theorem dL_law_403 : decode cL_law 403 = .ok (.iconst 2, 1) := by decide +kernel
theorem dL_law_404 : decode cL_law 404 = .ok (.iadd, 1) := by decide +kernel
theorem dL_law_405 : decode cL_law 405 = .ok (.iaload, 1) := by decide +kernel
theorem dL_law_406 : decode cL_law 406 = .ok (.aload_n 0, 1) := by decide +kernel
theorem dL_law_407 : decode cL_law 407 = .ok (.iload 4, 2) := by decide +kernel
theorem dL_law_409 : decode cL_law 409 = .ok (.iconst 3, 1) := by decide +kernel
theorem dL_law_410 : decode cL_law 410 = .ok (.iadd, 1) := by decide +kernel
theorem dL_law_411 : decode cL_law 411 = .ok (.iaload, 1) := by decide +kernel
theorem dL_law_412 : decode cL_law 412 = .ok (.aload_n 3, 1) := by decide +kernel
theorem dL_law_413 : decode cL_law 413 = .ok (.invokestatic 83, 3) := by decide +kernel
theorem dL_law_416 : decode cL_law 416 = .ok (.istore 5, 2) := by decide +kernel
theorem dL_law_418 : decode cL_law 418 = .ok (.aload_n 2, 1) := by decide +kernel
theorem dL_law_419 : decode cL_law 419 = .ok (.aload_n 0, 1) := by decide +kernel
theorem dL_law_420 : decode cL_law 420 = .ok (.iload 4, 2) := by decide +kernel
theorem dL_law_422 : decode cL_law 422 = .ok (.iconst 1, 1) := by decide +kernel
theorem dL_law_423 : decode cL_law 423 = .ok (.iadd, 1) := by decide +kernel
theorem dL_law_424 : decode cL_law 424 = .ok (.iaload, 1) := by decide +kernel
theorem dL_law_425 : decode cL_law 425 = .ok (.aload_n 0, 1) := by decide +kernel
theorem dL_law_426 : decode cL_law 426 = .ok (.iload 4, 2) := by decide +kernel
theorem dL_law_428 : decode cL_law 428 = .ok (.iconst 2, 1) := by decide +kernel
theorem dL_law_429 : decode cL_law 429 = .ok (.iadd, 1) := by decide +kernel
theorem dL_law_430 : decode cL_law 430 = .ok (.iaload, 1) := by decide +kernel
theorem dL_law_431 : decode cL_law 431 = .ok (.aload_n 0, 1) := by decide +kernel
theorem dL_law_432 : decode cL_law 432 = .ok (.iload 4, 2) := by decide +kernel
theorem dL_law_434 : decode cL_law 434 = .ok (.iconst 3, 1) := by decide +kernel
theorem dL_law_435 : decode cL_law 435 = .ok (.iadd, 1) := by decide +kernel
theorem dL_law_436 : decode cL_law 436 = .ok (.iaload, 1) := by decide +kernel
theorem dL_law_437 : decode cL_law 437 = .ok (.invokevirtual 85, 3) := by decide +kernel
theorem dL_law_440 : decode cL_law 440 = .ok (.lstore 6, 2) := by decide +kernel
theorem dL_law_442 : decode cL_law 442 = .ok (.aload_n 2, 1) := by decide +kernel
theorem dL_law_443 : decode cL_law 443 = .ok (.invokevirtual 68, 3) := by decide +kernel
theorem dL_law_446 : decode cL_law 446 = .ok (.iload 5, 2) := by decide +kernel
theorem dL_law_448 : decode cL_law 448 = .ok (.if_icmp .eq 5, 3) := by decide +kernel
theorem dL_law_451 : decode cL_law 451 = .ok (.iconst 0, 1) := by decide +kernel
theorem dL_law_452 : decode cL_law 452 = .ok (.ireturn, 1) := by decide +kernel
theorem dL_law_453 : decode cL_law 453 = .ok (.iload 5, 2) := by decide +kernel
theorem dL_law_455 : decode cL_law 455 = .ok (.ifCond .ne 14, 3) := by decide +kernel
theorem dL_law_458 : decode cL_law 458 = .ok (.aload_n 3, 1) := by decide +kernel
theorem dL_law_459 : decode cL_law 459 = .ok (.iconst 0, 1) := by decide +kernel
theorem dL_law_460 : decode cL_law 460 = .ok (.laload, 1) := by decide +kernel
theorem dL_law_461 : decode cL_law 461 = .ok (.lload 6, 2) := by decide +kernel
theorem dL_law_463 : decode cL_law 463 = .ok (.lcmp, 1) := by decide +kernel
theorem dL_law_464 : decode cL_law 464 = .ok (.ifCond .eq 5, 3) := by decide +kernel
theorem dL_law_467 : decode cL_law 467 = .ok (.iconst 0, 1) := by decide +kernel
theorem dL_law_468 : decode cL_law 468 = .ok (.ireturn, 1) := by decide +kernel
theorem dL_law_469 : decode cL_law 469 = .ok (.goto 455, 3) := by decide +kernel
theorem dL_law_472 : decode cL_law 472 = .ok (.aload_n 1, 1) := by decide +kernel
theorem dL_law_473 : decode cL_law 473 = .ok (.aload_n 0, 1) := by decide +kernel
theorem dL_law_474 : decode cL_law 474 = .ok (.iload 4, 2) := by decide +kernel
theorem dL_law_476 : decode cL_law 476 = .ok (.iconst 1, 1) := by decide +kernel
theorem dL_law_477 : decode cL_law 477 = .ok (.iadd, 1) := by decide +kernel
theorem dL_law_478 : decode cL_law 478 = .ok (.iaload, 1) := by decide +kernel
theorem dL_law_479 : decode cL_law 479 = .ok (.aload_n 0, 1) := by decide +kernel
theorem dL_law_480 : decode cL_law 480 = .ok (.iload 4, 2) := by decide +kernel
theorem dL_law_482 : decode cL_law 482 = .ok (.iconst 2, 1) := by decide +kernel
theorem dL_law_483 : decode cL_law 483 = .ok (.iadd, 1) := by decide +kernel
theorem dL_law_484 : decode cL_law 484 = .ok (.iaload, 1) := by decide +kernel
theorem dL_law_485 : decode cL_law 485 = .ok (.aload_n 0, 1) := by decide +kernel
theorem dL_law_486 : decode cL_law 486 = .ok (.iload 4, 2) := by decide +kernel
theorem dL_law_488 : decode cL_law 488 = .ok (.iconst 3, 1) := by decide +kernel
theorem dL_law_489 : decode cL_law 489 = .ok (.iadd, 1) := by decide +kernel
theorem dL_law_490 : decode cL_law 490 = .ok (.iaload, 1) := by decide +kernel
theorem dL_law_491 : decode cL_law 491 = .ok (.aload_n 3, 1) := by decide +kernel
theorem dL_law_492 : decode cL_law 492 = .ok (.invokestatic 86, 3) := by decide +kernel
theorem dL_law_495 : decode cL_law 495 = .ok (.istore 5, 2) := by decide +kernel
theorem dL_law_497 : decode cL_law 497 = .ok (.aload_n 2, 1) := by decide +kernel
theorem dL_law_498 : decode cL_law 498 = .ok (.aload_n 0, 1) := by decide +kernel
theorem dL_law_499 : decode cL_law 499 = .ok (.iload 4, 2) := by decide +kernel
theorem dL_law_501 : decode cL_law 501 = .ok (.iconst 1, 1) := by decide +kernel
theorem dL_law_502 : decode cL_law 502 = .ok (.iadd, 1) := by decide +kernel
theorem dL_law_503 : decode cL_law 503 = .ok (.iaload, 1) := by decide +kernel
theorem dL_law_504 : decode cL_law 504 = .ok (.aload_n 0, 1) := by decide +kernel
theorem dL_law_505 : decode cL_law 505 = .ok (.iload 4, 2) := by decide +kernel
theorem dL_law_507 : decode cL_law 507 = .ok (.iconst 2, 1) := by decide +kernel
theorem dL_law_508 : decode cL_law 508 = .ok (.iadd, 1) := by decide +kernel
theorem dL_law_509 : decode cL_law 509 = .ok (.iaload, 1) := by decide +kernel
theorem dL_law_510 : decode cL_law 510 = .ok (.aload_n 0, 1) := by decide +kernel
theorem dL_law_511 : decode cL_law 511 = .ok (.iload 4, 2) := by decide +kernel
theorem dL_law_513 : decode cL_law 513 = .ok (.iconst 3, 1) := by decide +kernel
theorem dL_law_514 : decode cL_law 514 = .ok (.iadd, 1) := by decide +kernel
theorem dL_law_515 : decode cL_law 515 = .ok (.iaload, 1) := by decide +kernel
theorem dL_law_516 : decode cL_law 516 = .ok (.invokevirtual 88, 3) := by decide +kernel
theorem dL_law_519 : decode cL_law 519 = .ok (.istore 6, 2) := by decide +kernel
theorem dL_law_521 : decode cL_law 521 = .ok (.aload_n 2, 1) := by decide +kernel
theorem dL_law_522 : decode cL_law 522 = .ok (.invokevirtual 68, 3) := by decide +kernel
theorem dL_law_525 : decode cL_law 525 = .ok (.iload 5, 2) := by decide +kernel
theorem dL_law_527 : decode cL_law 527 = .ok (.if_icmp .eq 5, 3) := by decide +kernel
theorem dL_law_530 : decode cL_law 530 = .ok (.iconst 0, 1) := by decide +kernel
theorem dL_law_531 : decode cL_law 531 = .ok (.ireturn, 1) := by decide +kernel
theorem dL_law_532 : decode cL_law 532 = .ok (.iload 5, 2) := by decide +kernel
theorem dL_law_534 : decode cL_law 534 = .ok (.ifCond .ne 15, 3) := by decide +kernel
theorem dL_law_537 : decode cL_law 537 = .ok (.aload_n 3, 1) := by decide +kernel
theorem dL_law_538 : decode cL_law 538 = .ok (.iconst 0, 1) := by decide +kernel
theorem dL_law_539 : decode cL_law 539 = .ok (.laload, 1) := by decide +kernel
theorem dL_law_540 : decode cL_law 540 = .ok (.iload 6, 2) := by decide +kernel
theorem dL_law_542 : decode cL_law 542 = .ok (.i2l, 1) := by decide +kernel
theorem dL_law_543 : decode cL_law 543 = .ok (.lcmp, 1) := by decide +kernel
theorem dL_law_544 : decode cL_law 544 = .ok (.ifCond .eq 5, 3) := by decide +kernel
theorem dL_law_547 : decode cL_law 547 = .ok (.iconst 0, 1) := by decide +kernel
theorem dL_law_548 : decode cL_law 548 = .ok (.ireturn, 1) := by decide +kernel
theorem dL_law_549 : decode cL_law 549 = .ok (.goto 375, 3) := by decide +kernel
theorem dL_law_552 : decode cL_law 552 = .ok (.aload_n 1, 1) := by decide +kernel
theorem dL_law_553 : decode cL_law 553 = .ok (.aload_n 0, 1) := by decide +kernel
theorem dL_law_554 : decode cL_law 554 = .ok (.iload 4, 2) := by decide +kernel
theorem dL_law_556 : decode cL_law 556 = .ok (.iconst 1, 1) := by decide +kernel
theorem dL_law_557 : decode cL_law 557 = .ok (.iadd, 1) := by decide +kernel
theorem dL_law_558 : decode cL_law 558 = .ok (.iaload, 1) := by decide +kernel
theorem dL_law_559 : decode cL_law 559 = .ok (.aload_n 0, 1) := by decide +kernel
theorem dL_law_560 : decode cL_law 560 = .ok (.iload 4, 2) := by decide +kernel
theorem dL_law_562 : decode cL_law 562 = .ok (.iconst 2, 1) := by decide +kernel
theorem dL_law_563 : decode cL_law 563 = .ok (.iadd, 1) := by decide +kernel
theorem dL_law_564 : decode cL_law 564 = .ok (.iaload, 1) := by decide +kernel
theorem dL_law_565 : decode cL_law 565 = .ok (.aload_n 3, 1) := by decide +kernel
theorem dL_law_566 : decode cL_law 566 = .ok (.invokestatic 89, 3) := by decide +kernel
theorem dL_law_569 : decode cL_law 569 = .ok (.istore 5, 2) := by decide +kernel
theorem dL_law_571 : decode cL_law 571 = .ok (.aload_n 2, 1) := by decide +kernel
theorem dL_law_572 : decode cL_law 572 = .ok (.aload_n 0, 1) := by decide +kernel
theorem dL_law_573 : decode cL_law 573 = .ok (.iload 4, 2) := by decide +kernel
theorem dL_law_575 : decode cL_law 575 = .ok (.iconst 1, 1) := by decide +kernel
theorem dL_law_576 : decode cL_law 576 = .ok (.iadd, 1) := by decide +kernel
theorem dL_law_577 : decode cL_law 577 = .ok (.iaload, 1) := by decide +kernel
theorem dL_law_578 : decode cL_law 578 = .ok (.aload_n 0, 1) := by decide +kernel
theorem dL_law_579 : decode cL_law 579 = .ok (.iload 4, 2) := by decide +kernel
theorem dL_law_581 : decode cL_law 581 = .ok (.iconst 2, 1) := by decide +kernel
theorem dL_law_582 : decode cL_law 582 = .ok (.iadd, 1) := by decide +kernel
theorem dL_law_583 : decode cL_law 583 = .ok (.iaload, 1) := by decide +kernel
theorem dL_law_584 : decode cL_law 584 = .ok (.invokevirtual 91, 3) := by decide +kernel
theorem dL_law_587 : decode cL_law 587 = .ok (.istore 6, 2) := by decide +kernel
theorem dL_law_589 : decode cL_law 589 = .ok (.aload_n 2, 1) := by decide +kernel
theorem dL_law_590 : decode cL_law 590 = .ok (.invokevirtual 68, 3) := by decide +kernel
theorem dL_law_593 : decode cL_law 593 = .ok (.iload 5, 2) := by decide +kernel
theorem dL_law_595 : decode cL_law 595 = .ok (.if_icmp .eq 5, 3) := by decide +kernel
theorem dL_law_598 : decode cL_law 598 = .ok (.iconst 0, 1) := by decide +kernel
theorem dL_law_599 : decode cL_law 599 = .ok (.ireturn, 1) := by decide +kernel
theorem dL_law_600 : decode cL_law 600 = .ok (.iload 5, 2) := by decide +kernel
theorem dL_law_602 : decode cL_law 602 = .ok (.ifCond .ne 15, 3) := by decide +kernel
theorem dL_law_605 : decode cL_law 605 = .ok (.aload_n 3, 1) := by decide +kernel
theorem dL_law_606 : decode cL_law 606 = .ok (.iconst 0, 1) := by decide +kernel
theorem dL_law_607 : decode cL_law 607 = .ok (.laload, 1) := by decide +kernel
theorem dL_law_608 : decode cL_law 608 = .ok (.iload 6, 2) := by decide +kernel
theorem dL_law_610 : decode cL_law 610 = .ok (.i2l, 1) := by decide +kernel
theorem dL_law_611 : decode cL_law 611 = .ok (.lcmp, 1) := by decide +kernel
theorem dL_law_612 : decode cL_law 612 = .ok (.ifCond .eq 5, 3) := by decide +kernel
theorem dL_law_615 : decode cL_law 615 = .ok (.iconst 0, 1) := by decide +kernel
theorem dL_law_616 : decode cL_law 616 = .ok (.ireturn, 1) := by decide +kernel
theorem dL_law_617 : decode cL_law 617 = .ok (.goto 307, 3) := by decide +kernel
theorem dL_law_620 : decode cL_law 620 = .ok (.aload_n 1, 1) := by decide +kernel
theorem dL_law_621 : decode cL_law 621 = .ok (.aload_n 0, 1) := by decide +kernel
theorem dL_law_622 : decode cL_law 622 = .ok (.iload 4, 2) := by decide +kernel
theorem dL_law_624 : decode cL_law 624 = .ok (.iconst 1, 1) := by decide +kernel
theorem dL_law_625 : decode cL_law 625 = .ok (.iadd, 1) := by decide +kernel
theorem dL_law_626 : decode cL_law 626 = .ok (.iaload, 1) := by decide +kernel
theorem dL_law_627 : decode cL_law 627 = .ok (.aload_n 0, 1) := by decide +kernel
theorem dL_law_628 : decode cL_law 628 = .ok (.iload 4, 2) := by decide +kernel
theorem dL_law_630 : decode cL_law 630 = .ok (.iconst 2, 1) := by decide +kernel
theorem dL_law_631 : decode cL_law 631 = .ok (.iadd, 1) := by decide +kernel
theorem dL_law_632 : decode cL_law 632 = .ok (.iaload, 1) := by decide +kernel
theorem dL_law_633 : decode cL_law 633 = .ok (.aload_n 3, 1) := by decide +kernel
theorem dL_law_634 : decode cL_law 634 = .ok (.invokestatic 92, 3) := by decide +kernel
theorem dL_law_637 : decode cL_law 637 = .ok (.istore 5, 2) := by decide +kernel
theorem dL_law_639 : decode cL_law 639 = .ok (.aload_n 2, 1) := by decide +kernel
theorem dL_law_640 : decode cL_law 640 = .ok (.aload_n 0, 1) := by decide +kernel
theorem dL_law_641 : decode cL_law 641 = .ok (.iload 4, 2) := by decide +kernel
theorem dL_law_643 : decode cL_law 643 = .ok (.iconst 1, 1) := by decide +kernel
theorem dL_law_644 : decode cL_law 644 = .ok (.iadd, 1) := by decide +kernel
theorem dL_law_645 : decode cL_law 645 = .ok (.iaload, 1) := by decide +kernel
theorem dL_law_646 : decode cL_law 646 = .ok (.aload_n 0, 1) := by decide +kernel
theorem dL_law_647 : decode cL_law 647 = .ok (.iload 4, 2) := by decide +kernel
theorem dL_law_649 : decode cL_law 649 = .ok (.iconst 2, 1) := by decide +kernel
theorem dL_law_650 : decode cL_law 650 = .ok (.iadd, 1) := by decide +kernel
theorem dL_law_651 : decode cL_law 651 = .ok (.iaload, 1) := by decide +kernel
theorem dL_law_652 : decode cL_law 652 = .ok (.invokevirtual 94, 3) := by decide +kernel
theorem dL_law_655 : decode cL_law 655 = .ok (.istore 6, 2) := by decide +kernel
theorem dL_law_657 : decode cL_law 657 = .ok (.aload_n 2, 1) := by decide +kernel
theorem dL_law_658 : decode cL_law 658 = .ok (.invokevirtual 68, 3) := by decide +kernel
theorem dL_law_661 : decode cL_law 661 = .ok (.iload 5, 2) := by decide +kernel
theorem dL_law_663 : decode cL_law 663 = .ok (.if_icmp .eq 5, 3) := by decide +kernel
theorem dL_law_666 : decode cL_law 666 = .ok (.iconst 0, 1) := by decide +kernel
theorem dL_law_667 : decode cL_law 667 = .ok (.ireturn, 1) := by decide +kernel
theorem dL_law_668 : decode cL_law 668 = .ok (.iload 5, 2) := by decide +kernel
theorem dL_law_670 : decode cL_law 670 = .ok (.ifCond .ne 15, 3) := by decide +kernel
theorem dL_law_673 : decode cL_law 673 = .ok (.aload_n 3, 1) := by decide +kernel
theorem dL_law_674 : decode cL_law 674 = .ok (.iconst 0, 1) := by decide +kernel
theorem dL_law_675 : decode cL_law 675 = .ok (.laload, 1) := by decide +kernel
theorem dL_law_676 : decode cL_law 676 = .ok (.iload 6, 2) := by decide +kernel
theorem dL_law_678 : decode cL_law 678 = .ok (.i2l, 1) := by decide +kernel
theorem dL_law_679 : decode cL_law 679 = .ok (.lcmp, 1) := by decide +kernel
theorem dL_law_680 : decode cL_law 680 = .ok (.ifCond .eq 5, 3) := by decide +kernel
theorem dL_law_683 : decode cL_law 683 = .ok (.iconst 0, 1) := by decide +kernel
theorem dL_law_684 : decode cL_law 684 = .ok (.ireturn, 1) := by decide +kernel
theorem dL_law_685 : decode cL_law 685 = .ok (.goto 239, 3) := by decide +kernel
theorem dL_law_688 : decode cL_law 688 = .ok (.aload_n 1, 1) := by decide +kernel
theorem dL_law_689 : decode cL_law 689 = .ok (.aload_n 0, 1) := by decide +kernel
theorem dL_law_690 : decode cL_law 690 = .ok (.iload 4, 2) := by decide +kernel
theorem dL_law_692 : decode cL_law 692 = .ok (.iconst 1, 1) := by decide +kernel
theorem dL_law_693 : decode cL_law 693 = .ok (.iadd, 1) := by decide +kernel
theorem dL_law_694 : decode cL_law 694 = .ok (.iaload, 1) := by decide +kernel
theorem dL_law_695 : decode cL_law 695 = .ok (.aload_n 3, 1) := by decide +kernel
theorem dL_law_696 : decode cL_law 696 = .ok (.invokestatic 95, 3) := by decide +kernel
theorem dL_law_699 : decode cL_law 699 = .ok (.istore 5, 2) := by decide +kernel
theorem dL_law_701 : decode cL_law 701 = .ok (.aload_n 2, 1) := by decide +kernel
theorem dL_law_702 : decode cL_law 702 = .ok (.aload_n 0, 1) := by decide +kernel
theorem dL_law_703 : decode cL_law 703 = .ok (.iload 4, 2) := by decide +kernel
theorem dL_law_705 : decode cL_law 705 = .ok (.iconst 1, 1) := by decide +kernel
theorem dL_law_706 : decode cL_law 706 = .ok (.iadd, 1) := by decide +kernel
theorem dL_law_707 : decode cL_law 707 = .ok (.iaload, 1) := by decide +kernel
theorem dL_law_708 : decode cL_law 708 = .ok (.invokevirtual 98, 3) := by decide +kernel
theorem dL_law_711 : decode cL_law 711 = .ok (.istore 6, 2) := by decide +kernel
theorem dL_law_713 : decode cL_law 713 = .ok (.aload_n 2, 1) := by decide +kernel
theorem dL_law_714 : decode cL_law 714 = .ok (.invokevirtual 68, 3) := by decide +kernel
theorem dL_law_717 : decode cL_law 717 = .ok (.iload 5, 2) := by decide +kernel
theorem dL_law_719 : decode cL_law 719 = .ok (.if_icmp .eq 5, 3) := by decide +kernel
theorem dL_law_722 : decode cL_law 722 = .ok (.iconst 0, 1) := by decide +kernel
theorem dL_law_723 : decode cL_law 723 = .ok (.ireturn, 1) := by decide +kernel
theorem dL_law_724 : decode cL_law 724 = .ok (.iload 5, 2) := by decide +kernel
theorem dL_law_726 : decode cL_law 726 = .ok (.ifCond .ne 15, 3) := by decide +kernel
theorem dL_law_729 : decode cL_law 729 = .ok (.aload_n 3, 1) := by decide +kernel
theorem dL_law_730 : decode cL_law 730 = .ok (.iconst 0, 1) := by decide +kernel
theorem dL_law_731 : decode cL_law 731 = .ok (.laload, 1) := by decide +kernel
theorem dL_law_732 : decode cL_law 732 = .ok (.iload 6, 2) := by decide +kernel
theorem dL_law_734 : decode cL_law 734 = .ok (.i2l, 1) := by decide +kernel
theorem dL_law_735 : decode cL_law 735 = .ok (.lcmp, 1) := by decide +kernel
theorem dL_law_736 : decode cL_law 736 = .ok (.ifCond .eq 5, 3) := by decide +kernel
theorem dL_law_739 : decode cL_law 739 = .ok (.iconst 0, 1) := by decide +kernel
theorem dL_law_740 : decode cL_law 740 = .ok (.ireturn, 1) := by decide +kernel
theorem dL_law_741 : decode cL_law 741 = .ok (.goto 183, 3) := by decide +kernel
theorem dL_law_744 : decode cL_law 744 = .ok (.aload_n 1, 1) := by decide +kernel
theorem dL_law_745 : decode cL_law 745 = .ok (.aload_n 0, 1) := by decide +kernel
theorem dL_law_746 : decode cL_law 746 = .ok (.iload 4, 2) := by decide +kernel
theorem dL_law_748 : decode cL_law 748 = .ok (.iconst 1, 1) := by decide +kernel
theorem dL_law_749 : decode cL_law 749 = .ok (.iadd, 1) := by decide +kernel
theorem dL_law_750 : decode cL_law 750 = .ok (.iaload, 1) := by decide +kernel
theorem dL_law_751 : decode cL_law 751 = .ok (.aload_n 0, 1) := by decide +kernel
theorem dL_law_752 : decode cL_law 752 = .ok (.iload 4, 2) := by decide +kernel
theorem dL_law_754 : decode cL_law 754 = .ok (.iconst 2, 1) := by decide +kernel
theorem dL_law_755 : decode cL_law 755 = .ok (.iadd, 1) := by decide +kernel
theorem dL_law_756 : decode cL_law 756 = .ok (.iaload, 1) := by decide +kernel
theorem dL_law_757 : decode cL_law 757 = .ok (.aload_n 3, 1) := by decide +kernel
theorem dL_law_758 : decode cL_law 758 = .ok (.invokestatic 99, 3) := by decide +kernel
theorem dL_law_761 : decode cL_law 761 = .ok (.istore 5, 2) := by decide +kernel
theorem dL_law_763 : decode cL_law 763 = .ok (.aload_n 2, 1) := by decide +kernel
theorem dL_law_764 : decode cL_law 764 = .ok (.aload_n 0, 1) := by decide +kernel
theorem dL_law_765 : decode cL_law 765 = .ok (.iload 4, 2) := by decide +kernel
theorem dL_law_767 : decode cL_law 767 = .ok (.iconst 1, 1) := by decide +kernel
theorem dL_law_768 : decode cL_law 768 = .ok (.iadd, 1) := by decide +kernel
theorem dL_law_769 : decode cL_law 769 = .ok (.iaload, 1) := by decide +kernel
theorem dL_law_770 : decode cL_law 770 = .ok (.aload_n 0, 1) := by decide +kernel
theorem dL_law_771 : decode cL_law 771 = .ok (.iload 4, 2) := by decide +kernel
theorem dL_law_773 : decode cL_law 773 = .ok (.iconst 2, 1) := by decide +kernel
theorem dL_law_774 : decode cL_law 774 = .ok (.iadd, 1) := by decide +kernel
theorem dL_law_775 : decode cL_law 775 = .ok (.iaload, 1) := by decide +kernel
theorem dL_law_776 : decode cL_law 776 = .ok (.invokevirtual 101, 3) := by decide +kernel
theorem dL_law_779 : decode cL_law 779 = .ok (.istore 6, 2) := by decide +kernel
theorem dL_law_781 : decode cL_law 781 = .ok (.aload_n 2, 1) := by decide +kernel
theorem dL_law_782 : decode cL_law 782 = .ok (.invokevirtual 68, 3) := by decide +kernel
theorem dL_law_785 : decode cL_law 785 = .ok (.iload 5, 2) := by decide +kernel
theorem dL_law_787 : decode cL_law 787 = .ok (.if_icmp .eq 5, 3) := by decide +kernel
theorem dL_law_790 : decode cL_law 790 = .ok (.iconst 0, 1) := by decide +kernel
theorem dL_law_791 : decode cL_law 791 = .ok (.ireturn, 1) := by decide +kernel
theorem dL_law_792 : decode cL_law 792 = .ok (.iload 5, 2) := by decide +kernel
theorem dL_law_794 : decode cL_law 794 = .ok (.ifCond .ne 15, 3) := by decide +kernel
theorem dL_law_797 : decode cL_law 797 = .ok (.aload_n 3, 1) := by decide +kernel
theorem dL_law_798 : decode cL_law 798 = .ok (.iconst 0, 1) := by decide +kernel
theorem dL_law_799 : decode cL_law 799 = .ok (.laload, 1) := by decide +kernel
theorem dL_law_800 : decode cL_law 800 = .ok (.iload 6, 2) := by decide +kernel
theorem dL_law_802 : decode cL_law 802 = .ok (.i2l, 1) := by decide +kernel
theorem dL_law_803 : decode cL_law 803 = .ok (.lcmp, 1) := by decide +kernel
theorem dL_law_804 : decode cL_law 804 = .ok (.ifCond .eq 5, 3) := by decide +kernel
theorem dL_law_807 : decode cL_law 807 = .ok (.iconst 0, 1) := by decide +kernel
theorem dL_law_808 : decode cL_law 808 = .ok (.ireturn, 1) := by decide +kernel
theorem dL_law_809 : decode cL_law 809 = .ok (.goto 115, 3) := by decide +kernel
theorem dL_law_812 : decode cL_law 812 = .ok (.aload_n 1, 1) := by decide +kernel
theorem dL_law_813 : decode cL_law 813 = .ok (.aload_n 0, 1) := by decide +kernel
theorem dL_law_814 : decode cL_law 814 = .ok (.iload 4, 2) := by decide +kernel
theorem dL_law_816 : decode cL_law 816 = .ok (.iconst 1, 1) := by decide +kernel
theorem dL_law_817 : decode cL_law 817 = .ok (.iadd, 1) := by decide +kernel
theorem dL_law_818 : decode cL_law 818 = .ok (.iaload, 1) := by decide +kernel
theorem dL_law_819 : decode cL_law 819 = .ok (.aload_n 3, 1) := by decide +kernel
theorem dL_law_820 : decode cL_law 820 = .ok (.invokestatic 102, 3) := by decide +kernel
theorem dL_law_823 : decode cL_law 823 = .ok (.istore 5, 2) := by decide +kernel
theorem dL_law_825 : decode cL_law 825 = .ok (.aload_n 2, 1) := by decide +kernel
theorem dL_law_826 : decode cL_law 826 = .ok (.aload_n 0, 1) := by decide +kernel
theorem dL_law_827 : decode cL_law 827 = .ok (.iload 4, 2) := by decide +kernel
theorem dL_law_829 : decode cL_law 829 = .ok (.iconst 1, 1) := by decide +kernel
theorem dL_law_830 : decode cL_law 830 = .ok (.iadd, 1) := by decide +kernel
theorem dL_law_831 : decode cL_law 831 = .ok (.iaload, 1) := by decide +kernel
theorem dL_law_832 : decode cL_law 832 = .ok (.invokevirtual 104, 3) := by decide +kernel
theorem dL_law_835 : decode cL_law 835 = .ok (.istore 6, 2) := by decide +kernel
theorem dL_law_837 : decode cL_law 837 = .ok (.aload_n 2, 1) := by decide +kernel
theorem dL_law_838 : decode cL_law 838 = .ok (.invokevirtual 68, 3) := by decide +kernel
theorem dL_law_841 : decode cL_law 841 = .ok (.iload 5, 2) := by decide +kernel
theorem dL_law_843 : decode cL_law 843 = .ok (.if_icmp .eq 5, 3) := by decide +kernel
theorem dL_law_846 : decode cL_law 846 = .ok (.iconst 0, 1) := by decide +kernel
theorem dL_law_847 : decode cL_law 847 = .ok (.ireturn, 1) := by decide +kernel
theorem dL_law_848 : decode cL_law 848 = .ok (.iload 5, 2) := by decide +kernel
theorem dL_law_850 : decode cL_law 850 = .ok (.ifCond .ne 15, 3) := by decide +kernel
theorem dL_law_853 : decode cL_law 853 = .ok (.aload_n 3, 1) := by decide +kernel
theorem dL_law_854 : decode cL_law 854 = .ok (.iconst 0, 1) := by decide +kernel
theorem dL_law_855 : decode cL_law 855 = .ok (.laload, 1) := by decide +kernel
theorem dL_law_856 : decode cL_law 856 = .ok (.iload 6, 2) := by decide +kernel
theorem dL_law_858 : decode cL_law 858 = .ok (.i2l, 1) := by decide +kernel
theorem dL_law_859 : decode cL_law 859 = .ok (.lcmp, 1) := by decide +kernel
theorem dL_law_860 : decode cL_law 860 = .ok (.ifCond .eq 5, 3) := by decide +kernel
theorem dL_law_863 : decode cL_law 863 = .ok (.iconst 0, 1) := by decide +kernel
theorem dL_law_864 : decode cL_law 864 = .ok (.ireturn, 1) := by decide +kernel
theorem dL_law_865 : decode cL_law 865 = .ok (.goto 59, 3) := by decide +kernel
theorem dL_law_868 : decode cL_law 868 = .ok (.aload_n 1, 1) := by decide +kernel
theorem dL_law_869 : decode cL_law 869 = .ok (.aload_n 0, 1) := by decide +kernel
theorem dL_law_870 : decode cL_law 870 = .ok (.iload 4, 2) := by decide +kernel
theorem dL_law_872 : decode cL_law 872 = .ok (.iconst 1, 1) := by decide +kernel
theorem dL_law_873 : decode cL_law 873 = .ok (.iadd, 1) := by decide +kernel
end
section
theorem dL_law_874 : decode cL_law 874 = .ok (.iaload, 1) := by decide +kernel
theorem dL_law_875 : decode cL_law 875 = .ok (.aload_n 3, 1) := by decide +kernel
theorem dL_law_876 : decode cL_law 876 = .ok (.invokestatic 105, 3) := by decide +kernel
theorem dL_law_879 : decode cL_law 879 = .ok (.istore 5, 2) := by decide +kernel
theorem dL_law_881 : decode cL_law 881 = .ok (.aload_n 2, 1) := by decide +kernel
theorem dL_law_882 : decode cL_law 882 = .ok (.aload_n 0, 1) := by decide +kernel
theorem dL_law_883 : decode cL_law 883 = .ok (.iload 4, 2) := by decide +kernel
theorem dL_law_885 : decode cL_law 885 = .ok (.iconst 1, 1) := by decide +kernel
theorem dL_law_886 : decode cL_law 886 = .ok (.iadd, 1) := by decide +kernel
theorem dL_law_887 : decode cL_law 887 = .ok (.iaload, 1) := by decide +kernel
theorem dL_law_888 : decode cL_law 888 = .ok (.invokevirtual 107, 3) := by decide +kernel
theorem dL_law_891 : decode cL_law 891 = .ok (.istore 6, 2) := by decide +kernel
theorem dL_law_893 : decode cL_law 893 = .ok (.aload_n 2, 1) := by decide +kernel
theorem dL_law_894 : decode cL_law 894 = .ok (.invokevirtual 68, 3) := by decide +kernel
theorem dL_law_897 : decode cL_law 897 = .ok (.iload 5, 2) := by decide +kernel
theorem dL_law_899 : decode cL_law 899 = .ok (.if_icmp .eq 5, 3) := by decide +kernel
theorem dL_law_902 : decode cL_law 902 = .ok (.iconst 0, 1) := by decide +kernel
theorem dL_law_903 : decode cL_law 903 = .ok (.ireturn, 1) := by decide +kernel
theorem dL_law_904 : decode cL_law 904 = .ok (.iload 5, 2) := by decide +kernel
theorem dL_law_906 : decode cL_law 906 = .ok (.ifCond .ne 15, 3) := by decide +kernel
theorem dL_law_909 : decode cL_law 909 = .ok (.aload_n 3, 1) := by decide +kernel
theorem dL_law_910 : decode cL_law 910 = .ok (.iconst 0, 1) := by decide +kernel
theorem dL_law_911 : decode cL_law 911 = .ok (.laload, 1) := by decide +kernel
theorem dL_law_912 : decode cL_law 912 = .ok (.iload 6, 2) := by decide +kernel
theorem dL_law_914 : decode cL_law 914 = .ok (.i2l, 1) := by decide +kernel
theorem dL_law_915 : decode cL_law 915 = .ok (.lcmp, 1) := by decide +kernel
theorem dL_law_916 : decode cL_law 916 = .ok (.ifCond .eq 5, 3) := by decide +kernel
theorem dL_law_919 : decode cL_law 919 = .ok (.iconst 0, 1) := by decide +kernel
theorem dL_law_920 : decode cL_law 920 = .ok (.ireturn, 1) := by decide +kernel
theorem dL_law_921 : decode cL_law 921 = .ok (.goto 3, 3) := by decide +kernel
theorem dL_law_924 : decode cL_law 924 = .ok (.iinc 4 4, 3) := by decide +kernel
theorem dL_law_927 : decode cL_law 927 = .ok (.goto (-904), 3) := by decide +kernel
theorem dL_law_930 : decode cL_law 930 = .ok (.iconst 1, 1) := by decide +kernel
theorem dL_law_931 : decode cL_law 931 = .ok (.ireturn, 1) := by decide +kernel
end
section
/-! ===== pure words of the walks: a program in Option, its loops by 'iter' ===== -/
/-- an index that lies in a row of n places -/
def inb (i : Int32) (n : Nat) : Bool := decide (¬ (i < 0 ∨ n ≤ i.toNatClampNeg))
theorem inb_in {i : Int32} {n : Nat} (h : inb i n = true) : vp_in i n := of_decide_eq_true (p := ¬ (i < 0 ∨ n ≤ i.toNatClampNeg)) h
/-- a number that is a boolean, a char -/
def isB (v : Int32) : Bool := decide (v = 0 ∨ v = 1)
def isC (v : Int32) : Bool := decide (narrow .char (.int v) = .int v)
def grd {α : Type} (b : Bool) (k : Option α) : Option α := match b with
  | true => k
  | false => none
theorem grd_some {α : Type} {b : Bool} {k : Option α} {r : α} (h : grd b k = some r) : b = true ∧ k = some r := by
  cases b with
  | true => exact ⟨rfl, h⟩
  | false => cases h
def bnd {α β : Type} (x : Option α) (k : α → Option β) : Option β := match x with
  | some a => k a
  | none => none
theorem bnd_some {α β : Type} {x : Option α} {k : α → Option β} {r : β} (h : bnd x k = some r) : ∃ a, x = some a ∧ k a = some r := by
  cases x with
  | some a => exact ⟨a, rfl, h⟩
  | none => cases h
theorem bnd_name {α β : Type} {x : Option α} {k : α → Option β} {r : β} (h : bnd x k = some r) : ∃ (j : α → Option β) (a : α), j = k ∧ x = some a ∧ j a = some r := by
  obtain ⟨a, h1, h2⟩ := bnd_some h
  exact ⟨k, a, rfl, h1, h2⟩
def jn {α β : Type} (k : α) (f : α → β) : β := f k
theorem jn_name {α β : Type} {k : α} {f : α → β} {r : β} (h : jn k f = r) : ∃ j, j = k ∧ f j = r := ⟨k, rfl, h⟩
theorem app_of {α β : Type} {k k' : α → β} (hk : k = k') {v : α} {r : β} (h : k v = r) : k' v = r := hk ▸ h
theorem ite_t {α : Type} {c : Prop} [Decidable c] {a b r : α} (hc : c) (h : (if c then a else b) = r) : a = r := by rw [if_pos hc] at h; exact h
theorem ite_f {α : Type} {c : Prop} [Decidable c] {a b r : α} (hc : ¬ c) (h : (if c then a else b) = r) : b = r := by rw [if_neg hc] at h; exact h
def cas {α β γ : Type} (e : α ⊕ β) (k1 : α → γ) (k2 : β → γ) : γ := match e with
  | .inl a => k1 a
  | .inr b => k2 b
theorem cas_l {α β γ : Type} {a : α} {k1 : α → γ} {k2 : β → γ} {r : γ} (h : cas (.inl a) k1 k2 = r) : k1 a = r := h
theorem cas_r {α β γ : Type} {b : β} {k1 : α → γ} {k2 : β → γ} {r : γ} (h : cas (.inr b) k1 k2 = r) : k2 b = r := h
def iter {σ ρ : Type} (b : σ → Option (σ ⊕ ρ)) : Nat → σ → Option ρ
  | 0, _ => none
  | n + 1, x => match b x with
    | none => none
    | some (.inl y) => iter b n y
    | some (.inr r) => some r
theorem iter_zero {σ ρ : Type} {b : σ → Option (σ ⊕ ρ)} {x : σ} {e : ρ} (h : iter b 0 x = some e) : False := by cases h
theorem iter_split {σ ρ : Type} {b : σ → Option (σ ⊕ ρ)} {n : Nat} {x : σ} {e : ρ} (h : iter b (n + 1) x = some e) : ∃ z, b x = some z ∧ (∀ y, z = .inl y → iter b n y = some e) ∧ (∀ r, z = .inr r → r = e) := by
  unfold iter at h
  cases hb : b x with
  | none => rw [hb] at h; cases h
  | some z =>
    rw [hb] at h
    cases z with
    | inl y => exact ⟨_, rfl, fun y' e' => (by cases e'; exact h), fun r e' => (by cases e')⟩
    | inr r => exact ⟨_, rfl, fun y' e' => (by cases e'), fun r' e' => (by cases e'; exact Option.some.inj h)⟩
theorem eq_some_app {α β : Type} {k : α → Option β} {v w : α} {r : β} (e : v = w) (h : k w = some r) : k v = some r := e ▸ h
def xiushr (x y : Int32) : Int32 := (x.toUInt32 >>> (y.toUInt32 &&& Int32.toUInt32 31)).toInt32
def xlushr (x : Int64) (y : Int32) : Int64 := (x.toUInt64 >>> (y.toInt64.toUInt64 &&& Int64.toUInt64 63)).toInt64
def xlshl (x : Int64) (y : Int32) : Int64 := x <<< (y.toInt64 &&& 63)
def xlshr (x : Int64) (y : Int32) : Int64 := x >>> (y.toInt64 &&& 63)
def xi2c (x : Int32) : Int32 := (x.toUInt32 % 65536).toInt32
theorem isB_n {v : Int32} (h : isB v = true) : narrow .boolean (.int v) = .int v := by
  rcases of_decide_eq_true h with e | e <;> rw [e] <;> rfl
theorem isB_f {v : Int32} (h : isB v = true) : fits .boolean (.int v) = true := by
  rcases of_decide_eq_true h with e | e <;> rw [e] <;> rfl
end
section
abbrev T0 : Type := (Nat → Int32) × (Nat → Int32) × (Nat → Int32) × (Nat → Int32) × (Nat → Int32) × (Nat → Int64) × (Nat → Int64) × (Nat → Int64) × (Nat → Int64) × (Nat → Int32) × (Nat → Int32) × Int32
abbrev T1 : Type := (Nat → Int32) × (Nat → Int32)
abbrev T2 : Type := (Nat → Int32) × (Nat → Int32) × (Nat → Int32) × (Nat → Int32) × Int32 × Int32
abbrev T3 : Type := (Nat → Int32) × (Nat → Int32) × (Nat → Int32) × (Nat → Int32) × (Nat → Int32) × (Nat → Int64) × (Nat → Int32) × Int32 × Int32
abbrev T4 : Type := (Nat → Int32) × Int32
abbrev T5 : Type := Unit
abbrev T6 : Type := (Int32 × (Nat → Int32) × (Nat → Int32) × (Nat → Int32) × Int32) × (Int32 × (Nat → Int32) × (Nat → Int64) × (Nat → Int64) × (Nat → Int32) × (Nat → Int32) × (Nat → Int32) × (Nat → Int32) × (Nat → Int32)) × (Int32 × (Nat → Int32) × (Nat → Int32) × (Nat → Int64) × (Nat → Int64) × (Nat → Int64) × (Nat → Int64) × (Nat → Int32)) × (Int32 × Int32 × Int32 × Int32 × Int32 × (Nat → Int32) × (Nat → Int32)) × ((Nat → Int32) × Int32 × Int32 × Int32)
/-! ===== contracts: a method that reads (Ro), a method that writes its own cells (Rw) ===== -/
abbrev tyA (kA : Nat → ClassId) : List (ClassId × FieldType) := [(kA 0, .int), (kA 1, .char), (kA 2, .long), (kA 3, .boolean)]
def isNest : Cond → Bool
  | .fieldLinkNest .. => true
  | .methodLinkNest .. => true
  | _ => false
def nws : List Cond := lw_tbl.filter isNest
def NW (U : State) : Prop := ∀ w ∈ nws, va_Nw w U
theorem nw_of {w : Cond} (i : Nat) (h : lw_tbl[i]? = some w) (hg : isNest w = true) : w ∈ nws := List.mem_filter.mpr ⟨List.mem_of_getElem? h, hg⟩
theorem NW.warm {s U : State} (hW : s.WarmedH U.vm) (h : NW s) : NW U := by
  intro w hw
  have h1 := h w hw
  have h2 : isNest w = true := (List.mem_filter.mp hw).2
  cases w <;> first | exact va_Nw.warmF hW h1 | exact va_Nw.warmM hW h1 | exact absurd h2 (by simp [isNest])
theorem NW.calling {U : State} {g : JFrame} {mk : MethodId} {a : Array Value} (h : NW U) : NW (U.calling g mk a) := by
  intro w hw
  have h2 : isNest w = true := (List.mem_filter.mp hw).2
  refine va_Nw.same (u := U) ?_ rfl (h w hw)
  cases w <;> first | rfl | exact absurd h2 (by simp [isNest])
abbrev wsM (y : MethodName) (cc : ByteArray) (maxL : Nat) (ret : Option FieldType) : List Cond := Cond.code y cc maxL ret :: gtb
theorem gi_M {y : MethodName} {cc : ByteArray} {maxL : Nat} {ret : Option FieldType} (hc : Cond.code y cc maxL ret ∈ gtb) : GoodIn gtb (wsM y cc maxL ret) := by
  intro w h
  rcases List.mem_cons.mp h with e | h
  · rw [e]; exact ⟨hc, good_of_word (gtb_good hc)⟩
  · exact ⟨h, good_of_word (gtb_good h)⟩
def roC (r : Value) : Array Value → State → Outcome → State → Prop := fun _ st o t => o = .returned (some r) ∧ t.heap = st.heap
def roP (D : va_G) (kA : Nat → ClassId) (av : List Value) (wc : va_W) : Array Value → State → Prop := va_Pc av (fun U => NW U ∧ va_P D vwCl wc U.heap ∧ va_K D vwCl (tyA kA) U)
def Ro (l : Launch) (y : MethodName) (cc : ByteArray) (maxL : Nat) (ret : Option FieldType) (rm : Room) (D : va_G) (kA : Nat → ClassId) (av : List Value) (wc : va_W) (r : Value) : Prop :=
  Met l y (wsM y cc maxL ret) rm (roP D kA av wc) (roC r) 0 0 (fun _ => False)
def roQ (below : List Frame) (r : Value) (args : Array Value) (s : State) : State → Prop := MQ below (roC r) args s 0 0 (fun _ => False)
/-- what a body knows of its machine -/
def Fx (p : Program) (s : State) (m : MethodId) (args : Array Value) (meth : Method) (c : Code) (own : String) (cc : ByteArray) (nL : Nat) (ret : Option FieldType) : Prop :=
  p.tables.exec = Jvm.exec ∧ c.code = cc ∧ c.maxLocals = nL ∧ s.vm.findClass own = some m.cls ∧ meth.sig.returnType = ret ∧ meth.locks = false ∧ (∀ w ∈ gtb, w.before args s = true) ∧ NW s
theorem Ro.of {l : Launch} {y : MethodName} {cc : ByteArray} {maxL : Nat} {ret : Option FieldType} {rm : Room} {D : va_G} {kA : Nat → ClassId} {av : List Value} {wc : va_W} {r : Value} (hy : plainName y.cls = true) (hav : (lg_sl av).length ≤ maxL)
    (body : ∀ p e s m args below meth c, Fx p s m args meth c y.cls cc maxL ret → va_P D vwCl wc s.heap → va_K D vwCl (tyA kA) s → ∀ ls, lv_has ls maxL (lv_args 0 av) → W p l e rm s m args below meth c s.heap [] 0 0 (roQ below r args s) (F0 m 0 ls [])) : Ro l y cc maxL ret rm D kA av wc r := by
  refine Met.ofW (cc := cc) (maxL := maxL) (ret := ret) hy rfl ?_
  intro p e s m args below meth c s₁ B hml hv
  obtain ⟨rfl, hN, hP, hK⟩ := hv
  have hts := atoms_spec (ws := wsM y cc maxL ret) B.pre
  have hl := lv_entry av (n := maxL) hav
  rw [lg_entry_eq]
  exact body p e s m _ below meth c ⟨B.exec, B.bytes, hml, findClass_of_methodNamed B.named, B.returns, B.notSynchronized, fun w h => hts w (List.mem_cons_of_mem _ h), hN⟩ hP hK _ hl
def rwC (D : va_G) (A : Nat → Prop) (r : Option Value) (w1 : va_W) : Array Value → State → Outcome → State → Prop := fun _ st o t => (o = .returned r ∧ va_P D vwCl w1 t.heap ∧ va_D A w1) ∧ va_F A st t
def rwP (D : va_G) (kA : Nat → ClassId) (av : List Value) (wc : va_W) (sz : Nat) : Array Value → State → Prop := va_Pc av (fun U => U.heap.size = sz ∧ NW U ∧ va_P D vwCl wc U.heap ∧ va_K D vwCl (tyA kA) U ∧ va_D (fun _ => True) wc)
def Rw (l : Launch) (y : MethodName) (cc : ByteArray) (maxL : Nat) (ret : Option FieldType) (rm : Room) (D : va_G) (kA : Nat → ClassId) (av : List Value) (wc : va_W) (r : Option Value) (w1 : va_W) : Prop :=
  ∀ sz : Nat, Met l y (wsM y cc maxL ret) rm (rwP D kA av wc sz) (rwC D (va_A wc sz) r w1) 0 0 (va_A wc sz)
def rwQ (below : List Frame) (D : va_G) (A : Nat → Prop) (r : Option Value) (w1 : va_W) (args : Array Value) (s : State) : State → Prop := MQ below (rwC D A r w1) args s 0 0 A
theorem Rw.of {l : Launch} {y : MethodName} {cc : ByteArray} {maxL : Nat} {ret : Option FieldType} {rm : Room} {D : va_G} {kA : Nat → ClassId} {av : List Value} {wc : va_W} {r : Option Value} {w1 : va_W} (hy : plainName y.cls = true) (hav : (lg_sl av).length ≤ maxL)
    (body : ∀ p e s m args below meth c (A : Nat → Prop), Fx p s m args meth c y.cls cc maxL ret → va_P D vwCl wc s.heap → va_D A wc → va_S A s.heap s.heap [] → (∀ q, s.heap.size ≤ q → A q) → va_K D vwCl (tyA kA) s → ∀ ls, lv_has ls maxL (lv_args 0 av) → W p l e rm s m args below meth c s.heap [] 0 0 (rwQ below D A r w1 args s) (F0 m 0 ls [])) : Rw l y cc maxL ret rm D kA av wc r w1 := by
  intro sz
  refine Met.ofW (cc := cc) (maxL := maxL) (ret := ret) hy rfl ?_
  intro p e s m args below meth c s₁ B hml hv
  obtain ⟨rfl, hsz, hN, hP, hK, hD0⟩ := hv
  subst hsz
  have hts := atoms_spec (ws := wsM y cc maxL ret) B.pre
  have hl := lv_entry av (n := maxL) hav
  rw [lg_entry_eq]
  exact body p e s m _ below meth c _ ⟨B.exec, B.bytes, hml, findClass_of_methodNamed B.named, B.returns, B.notSynchronized, fun w h => hts w (List.mem_cons_of_mem _ h), hN⟩ hP (hD0.self (sz := s.heap.size)) va_S.rf (fun q h => Or.inr h) hK _ hl
section EndRows
variable {p : Program} {l : Launch} {e : Env} {R : Room} {s : State} {m : MethodId} {args : Array Value} {below : List Frame} {meth : Method} {c : Code} {H : Heap} {locs : List Loc} {cc : ByteArray} {pc : Nat} {ls : Array Slot} {D : va_G} {A : Nat → Prop} {w1 : va_W}
theorem ro_ireturn {v : Int32} (hx : p.tables.exec = Jvm.exec) (hb : c.code = cc) (hr : meth.sig.returnType = some .int) (hk : meth.locks = false) (hdg : decode cc pc = .ok (.ireturn, 1)) : W p l e R s m args below meth c s.heap [] 0 0 (roQ below (.int v) args s) (F0 m pc ls [.int v]) :=
  W.iret hx hb hr (fun t ht hW => ⟨rfl, ht⟩) (fun q h => by cases h) hdg hk
theorem ro_zreturn {v : Int32} {ty : FieldType} (hx : p.tables.exec = Jvm.exec) (hb : c.code = cc) (hr : meth.sig.returnType = some ty) (hk : meth.locks = false) (hn : narrow ty (.int v) = .int v) (hdg : decode cc pc = .ok (.ireturn, 1)) : W p l e R s m args below meth c s.heap [] 0 0 (roQ below (.int v) args s) (F0 m pc ls [.int v]) :=
  W.zret hx hb hr hn (fun t ht hW => ⟨rfl, ht⟩) (fun q h => by cases h) hdg hk
theorem ro_lreturn {v : Int64} (hx : p.tables.exec = Jvm.exec) (hb : c.code = cc) (hr : meth.sig.returnType = some .long) (hk : meth.locks = false) (hdg : decode cc pc = .ok (.lreturn, 1)) : W p l e R s m args below meth c s.heap [] 0 0 (roQ below (.long v) args s) (F0 m pc ls [.long v]) :=
  W.lret hx hb hr (fun t ht hW => ⟨rfl, ht⟩) (fun q h => by cases h) hdg hk
theorem rw_ireturn {v : Int32} (hx : p.tables.exec = Jvm.exec) (hb : c.code = cc) (hr : meth.sig.returnType = some .int) (hk : meth.locks = false) (hdg : decode cc pc = .ok (.ireturn, 1)) (hP : va_P D vwCl w1 H) (hD : va_D A w1) (hS : va_S A s.heap H locs) : W p l e R s m args below meth c H locs 0 0 (rwQ below D A (some (.int v)) w1 args s) (F0 m pc ls [.int v]) :=
  W.iret hx hb hr (fun t ht hW => ⟨⟨rfl, by rw [ht]; exact hP, hD⟩, hS.F ht⟩) hS.2.2 hdg hk
theorem rw_zreturn {v : Int32} {ty : FieldType} (hx : p.tables.exec = Jvm.exec) (hb : c.code = cc) (hr : meth.sig.returnType = some ty) (hk : meth.locks = false) (hn : narrow ty (.int v) = .int v) (hdg : decode cc pc = .ok (.ireturn, 1)) (hP : va_P D vwCl w1 H) (hD : va_D A w1) (hS : va_S A s.heap H locs) : W p l e R s m args below meth c H locs 0 0 (rwQ below D A (some (.int v)) w1 args s) (F0 m pc ls [.int v]) :=
  W.zret hx hb hr hn (fun t ht hW => ⟨⟨rfl, by rw [ht]; exact hP, hD⟩, hS.F ht⟩) hS.2.2 hdg hk
theorem rw_lreturn {v : Int64} (hx : p.tables.exec = Jvm.exec) (hb : c.code = cc) (hr : meth.sig.returnType = some .long) (hk : meth.locks = false) (hdg : decode cc pc = .ok (.lreturn, 1)) (hP : va_P D vwCl w1 H) (hD : va_D A w1) (hS : va_S A s.heap H locs) : W p l e R s m args below meth c H locs 0 0 (rwQ below D A (some (.long v)) w1 args s) (F0 m pc ls [.long v]) :=
  W.lret hx hb hr (fun t ht hW => ⟨⟨rfl, by rw [ht]; exact hP, hD⟩, hS.F ht⟩) hS.2.2 hdg hk
theorem rw_return (hx : p.tables.exec = Jvm.exec) (hb : c.code = cc) (hr : meth.sig.returnType = none) (hk : meth.locks = false) (hdg : decode cc pc = .ok (.return_, 1)) (hP : va_P D vwCl w1 H) (hD : va_D A w1) (hS : va_S A s.heap H locs) : W p l e R s m args below meth c H locs 0 0 (rwQ below D A none w1 args s) (F0 m pc ls []) :=
  W.vret hx hb hr (fun t ht hW => ⟨⟨rfl, by rw [ht]; exact hP, hD⟩, hS.F ht⟩) hS.2.2 hdg hk
end EndRows
section CallRows
variable {p : Program} {l : Launch} {e : Env} {R : Room} {s : State} {m : MethodId} {args : Array Value} {below : List Frame} {meth : Method} {c : Code} {H : Heap} {locs : List Loc} {cells slots : Nat} {Q : State → Prop}
variable {cc bytes : ByteArray} {pc nL maxL index n : Nat} {ls : Array Slot} {rest st0 As : List Value} {D : va_G} {kA : Nat → ClassId} {A : Nat → Prop} {wb wc wr w1 : va_W} {own C host : String} {y : MethodName} {ret : Option FieldType} {rm : Room} {b : Addr} {r : Value} {ro : Option Value}
theorem ro_run {a : Array Value} (hr : va_Run p l e R s m args below meth c H locs cells slots 0 0 (F0 m pc ls st0) rest (roC r a) (fun _ => False)) (kk : W p l e R s m args below meth c H locs cells slots Q (F0 m (pc + 3) ls (r :: rest))) : W p l e R s m args below meth c H locs cells slots Q (F0 m pc ls st0) := by
  intro T hT X
  obtain ⟨v, st₀, t, T', L, h0, X', hL, e1, e2, ⟨hv, hh⟩, st⟩ := hr T hT X
  cases hv
  obtain ⟨t2, a1, b1⟩ := kk T' (by rw [e1, hh, h0]) (Stand.forget X' (fun q h => (hL q h).elim))
  exact ⟨t2, st t2 a1, b1⟩
theorem rw_run {a : Array Value} {H0 : Heap} (isC isR : List Nat) (hr : va_Run p l e R s m args below meth c H locs cells slots 0 0 (F0 m pc ls st0) rest (rwC D (va_A wc H.size) ro w1 a) (va_A wc H.size)) (hP : va_P D vwCl wb H) (hD : va_D A wb) (hS : va_S A H0 H locs) (hA : ∀ q, H0.size ≤ q → A q)
    (hC : isC.map (fun i => wb[i]?) = wc.map some) (hR : isR.map (fun i => wb[i]?) = wr.map some) (hn : va_nd isR = true) (hdis : ∀ i ∈ isR, i ∉ isC)
    (kk : ∀ (H1 : Heap) (locs1 : List Loc), va_P D vwCl (wr ++ w1) H1 → va_D A (wr ++ w1) → va_S A H0 H1 locs1 → W p l e R s m args below meth c H1 locs1 cells slots Q (F0 m (pc + 3) ls (ro.toList ++ rest))) : W p l e R s m args below meth c H locs cells slots Q (F0 m pc ls st0) := by
  have hF := va_free (wc := wc) hD hS hA isC hC
  intro T hT X
  obtain ⟨v, st₀, t, T', L, h0, X', hL, e1, e2, ⟨⟨hv, hP1, hD1⟩, hz, hk⟩, st⟩ := hr T hT X
  cases hv
  rw [h0] at hz hk
  have hk1 : ∀ q : Nat, q < H.size → ¬ va_A wc H.size q → T'.heap[q]? = H[q]? := fun q h1 h2 => by rw [e1]; exact hk q h1 h2
  obtain ⟨hP2, hD2⟩ := va_join (w1 := w1) hP hD isC isR hC hR hn hdis hk1 hF (by rw [e1]; exact hP1) hD1
  obtain ⟨t2, a1, b1⟩ := kk T'.heap (locs ++ L) hP2 hD2
    ⟨Nat.le_trans hS.1 (by rw [e1]; exact hz), fun q h1 h2 => by rw [hk1 q (Nat.lt_of_lt_of_le h1 hS.1) (fun z => h2 (hF q z))]; exact hS.2.1 q h1 h2, fun q hq => by
      rcases List.mem_append.mp hq with h | h
      · exact hS.2.2 q h
      · exact hF _ (hL q h)⟩ T' rfl X'
  exact ⟨t2, st t2 a1, b1⟩
theorem roP_blind {av : List Value} : FrameBlind (roP D kA av wc) := fun a U g mk q => by
  obtain ⟨q0, q1, q2, q3⟩ := q
  exact ⟨q0, q1.calling, q2, va_K.moved (u := U) (U := U.calling g mk a) (Vm.Alike.refl U.vm) q3⟩
theorem rwP_blind {av : List Value} {sz : Nat} : FrameBlind (rwP D kA av wc sz) := fun a U g mk q => by
  obtain ⟨q0, q1, q2, q3, q4, q5⟩ := q
  exact ⟨q0, q1, q2.calling, q3, va_K.moved (u := U) (U := U.calling g mk a) (Vm.Alike.refl U.vm) q4, q5⟩
theorem cb_of (hts : ∀ w ∈ gtb, w.before args s = true) (hc : Cond.code y bytes maxL ret ∈ gtb) (hini : Cond.initialized y.cls ∈ gtb) (hl : Cond.methodLink own index y ∈ gtb) (hrc : rm.cells = 0) (hrs : rm.slots = 0)
    (hd : (y.cls ≠ "java/lang/invoke/MethodHandle" ∧ y.cls ≠ "java/lang/invoke/VarHandle" ∧ (parseMethodDescriptor y.desc).map (fun d => d.parameters.length) = some n)) (hR : rm.frames + 1 ≤ R.frames ∧ 8 + (maxL + 11) + rm.locals ≤ R.locals) : CallB R s args own index y bytes maxL ret (wsM y bytes maxL ret) rm 0 0 n :=
  callB_of n hts (gi_M hc) rfl hrc hrs (hts _ hini) (hts _ hl) hd hR
/-- a virtual call that reads -/
theorem ro_V (hx : p.tables.exec = Jvm.exec) (hb : c.code = cc) (hml : c.maxLocals = nL) (hown : s.vm.findClass own = some m.cls) (hts : ∀ w ∈ gtb, w.before args s = true) (hN : NW s) (hK : va_K D vwCl (tyA kA) s) (hP : va_P D vwCl wb H)
    (hM : Ro l y bytes maxL ret rm D kA (.ref b :: As) wc r) (isC : List Nat) (hC : isC.filterMap (fun i => wb[i]?) = wc) (q0 ci : Nat) {q : vw_C} {fs : List Value} (he : wb[q0]? = some (b, .inr (ci, fs))) (hci : vwCl[ci]? = some q) (hq : q.1 = y.cls)
    (w1 : Cond.methodLink own index y ∈ gtb) (w2 : Cond.instanceMethod y ∈ gtb) (w3 : Cond.selects y.cls y y ∈ gtb) (w4 : Cond.initialized y.cls ∈ gtb) (w5 : Cond.code y bytes maxL ret ∈ gtb) (hrc : rm.cells = 0) (hrs : rm.slots = 0)
    (hd : (y.cls ≠ "java/lang/invoke/MethodHandle" ∧ y.cls ≠ "java/lang/invoke/VarHandle" ∧ (parseMethodDescriptor y.desc).map (fun d => d.parameters.length) = some n)) (hR : rm.frames + 1 ≤ R.frames ∧ 8 + (maxL + 11) + rm.locals ≤ R.locals)
    (hn : As.length = n) (hsize : ls.size = nL) (hst : st0 = As.reverse ++ .ref b :: rest) (hW : (rest.map fun v => v.category).sum ≤ 8) (hdg : decode cc pc = .ok (.invokevirtual index, 3)) (hcs : cells ≤ R.cells ∧ slots ≤ R.slots)
    (kk : W p l e R s m args below meth c H locs cells slots Q (F0 m (pc + 3) ls (r :: rest))) : W p l e R s m args below meth c H locs cells slots Q (F0 m pc ls st0) := by
  refine ro_run (va_runV (C := y.cls) (As := As) (rest := rest) ⟨hx, hb, hml, hown, hts⟩ hM ⟨cb_of hts w5 w4 w1 hrc hrs hd hR, hts _ w2, hts _ w3⟩ ⟨roP_blind, ?_, ?_⟩ rfl hn hsize hst (lv_room hW) hdg hcs) kk
  · obtain ⟨cell, h1, h2, h3⟩ := va_recv hK hP hci he
    exact ⟨cell, h1, h2, by rw [← hq]; exact h3⟩
  · intro U hU hW
    exact ⟨rfl, hN.warm hW, by rw [hU]; exact hP.sub isC hC, va_K.moved hW.alike hK⟩
/-- a static call that reads -/
theorem ro_S (hx : p.tables.exec = Jvm.exec) (hb : c.code = cc) (hml : c.maxLocals = nL) (hown : s.vm.findClass own = some m.cls) (hts : ∀ w ∈ gtb, w.before args s = true) (hN : NW s) (hK : va_K D vwCl (tyA kA) s) (hP : va_P D vwCl wb H)
    (hM : Ro l y bytes maxL ret rm D kA As wc r) (isC : List Nat) (hC : isC.filterMap (fun i => wb[i]?) = wc)
    (w1 : Cond.methodLink own index y ∈ gtb) (w2 : Cond.static y ∈ gtb) (w4 : Cond.initialized y.cls ∈ gtb) (w5 : Cond.code y bytes maxL ret ∈ gtb) (hrc : rm.cells = 0) (hrs : rm.slots = 0)
    (hd : (y.cls ≠ "java/lang/invoke/MethodHandle" ∧ y.cls ≠ "java/lang/invoke/VarHandle" ∧ (parseMethodDescriptor y.desc).map (fun d => d.parameters.length) = some n)) (hR : rm.frames + 1 ≤ R.frames ∧ 8 + (maxL + 11) + rm.locals ≤ R.locals)
    (hn : As.length = n) (hsize : ls.size = nL) (hst : st0 = As.reverse ++ rest) (hW : (rest.map fun v => v.category).sum ≤ 8) (hdg : decode cc pc = .ok (.invokestatic index, 3)) (hcs : cells ≤ R.cells ∧ slots ≤ R.slots)
    (kk : W p l e R s m args below meth c H locs cells slots Q (F0 m (pc + 3) ls (r :: rest))) : W p l e R s m args below meth c H locs cells slots Q (F0 m pc ls st0) := by
  refine ro_run (va_runS (As := As) (rest := rest) ⟨hx, hb, hml, hown, hts⟩ hM ⟨cb_of hts w5 w4 w1 hrc hrs hd hR, hts _ w2⟩ ⟨roP_blind, ?_⟩ rfl hn hsize hst (lv_room hW) hdg hcs) kk
  intro U hU hW
  exact ⟨rfl, hN.warm hW, by rw [hU]; exact hP.sub isC hC, va_K.moved hW.alike hK⟩
/-- a static call of a nest mate's private method that reads -/
theorem ro_SN (hx : p.tables.exec = Jvm.exec) (hb : c.code = cc) (hml : c.maxLocals = nL) (hown : s.vm.findClass own = some m.cls) (hts : ∀ w ∈ gtb, w.before args s = true) (hN : NW s) (hK : va_K D vwCl (tyA kA) s) (hP : va_P D vwCl wb H)
    (hM : Ro l y bytes maxL ret rm D kA As wc r) (isC : List Nat) (hC : isC.filterMap (fun i => wb[i]?) = wc)
    (w1 : Cond.methodLinkNest own index y host ∈ nws) (w2 : Cond.static y ∈ gtb) (w4 : Cond.initialized y.cls ∈ gtb) (w5 : Cond.code y bytes maxL ret ∈ gtb) (hrc : rm.cells = 0) (hrs : rm.slots = 0)
    (hd : (y.cls ≠ "java/lang/invoke/MethodHandle" ∧ y.cls ≠ "java/lang/invoke/VarHandle" ∧ (parseMethodDescriptor y.desc).map (fun d => d.parameters.length) = some n)) (hR : rm.frames + 1 ≤ R.frames ∧ 8 + (maxL + 11) + rm.locals ≤ R.locals)
    (hn : As.length = n) (hsize : ls.size = nL) (hst : st0 = As.reverse ++ rest) (hW : (rest.map fun v => v.category).sum ≤ 8) (hdg : decode cc pc = .ok (.invokestatic index, 3)) (hcs : cells ≤ R.cells ∧ slots ≤ R.slots)
    (kk : W p l e R s m args below meth c H locs cells slots Q (F0 m (pc + 3) ls (r :: rest))) : W p l e R s m args below meth c H locs cells slots Q (F0 m pc ls st0) := by
  refine ro_run (va_runSN (host := host) (As := As) (rest := rest) ⟨hx, hb, hml, hown, hts⟩ hM ⟨va_cnB n hts (gi_M w5) rfl hrc hrs (hN _ w1) (hts _ w4) hd hR, hts _ w2, trivial⟩ ⟨roP_blind, ?_⟩ rfl hn hsize hst (lv_room hW) hdg hcs) kk
  intro U hU hW
  exact ⟨rfl, hN.warm hW, by rw [hU]; exact hP.sub isC hC, va_K.moved hW.alike hK⟩
/-- a virtual call that writes -/
theorem rw_V {H0 : Heap} (hx : p.tables.exec = Jvm.exec) (hb : c.code = cc) (hml : c.maxLocals = nL) (hown : s.vm.findClass own = some m.cls) (hts : ∀ w ∈ gtb, w.before args s = true) (hN : NW s) (hK : va_K D vwCl (tyA kA) s) (hP : va_P D vwCl wb H) (hD : va_D A wb) (hS : va_S A H0 H locs) (hA : ∀ q, H0.size ≤ q → A q)
    (hM : Rw l y bytes maxL ret rm D kA (.ref b :: As) wc ro w1) (isC isR : List Nat) (hC : isC.map (fun i => wb[i]?) = wc.map some) (hCn : va_nd isC = true) (hR9 : isR.map (fun i => wb[i]?) = wr.map some) (hRn : va_nd isR = true) (hdis : ∀ i ∈ isR, i ∉ isC) (q0 ci : Nat) {q : vw_C} {fs : List Value} (he : wb[q0]? = some (b, .inr (ci, fs))) (hci : vwCl[ci]? = some q) (hq : q.1 = y.cls)
    (v1 : Cond.methodLink own index y ∈ gtb) (v2 : Cond.instanceMethod y ∈ gtb) (v3 : Cond.selects y.cls y y ∈ gtb) (v4 : Cond.initialized y.cls ∈ gtb) (v5 : Cond.code y bytes maxL ret ∈ gtb) (hrc : rm.cells = 0) (hrs : rm.slots = 0)
    (hd : (y.cls ≠ "java/lang/invoke/MethodHandle" ∧ y.cls ≠ "java/lang/invoke/VarHandle" ∧ (parseMethodDescriptor y.desc).map (fun d => d.parameters.length) = some n)) (hR : rm.frames + 1 ≤ R.frames ∧ 8 + (maxL + 11) + rm.locals ≤ R.locals)
    (hn : As.length = n) (hsize : ls.size = nL) (hst : st0 = As.reverse ++ .ref b :: rest) (hW : (rest.map fun v => v.category).sum ≤ 8) (hdg : decode cc pc = .ok (.invokevirtual index, 3)) (hcs : cells ≤ R.cells ∧ slots ≤ R.slots)
    (kk : ∀ (H1 : Heap) (locs1 : List Loc), va_P D vwCl (wr ++ w1) H1 → va_D A (wr ++ w1) → va_S A H0 H1 locs1 → W p l e R s m args below meth c H1 locs1 cells slots Q (F0 m (pc + 3) ls (ro.toList ++ rest))) : W p l e R s m args below meth c H locs cells slots Q (F0 m pc ls st0) := by
  have hPc : va_P D vwCl wc H := fun k q hk => by
    have h1 : (isC.map (fun i => wb[i]?))[k]? = some (some q) := by rw [hC, List.getElem?_map, hk]; rfl
    rw [List.getElem?_map] at h1
    cases hi : isC[k]? with
    | none => rw [hi] at h1; cases h1
    | some i => rw [hi] at h1; exact hP i q (Option.some.inj h1)
  refine rw_run isC isR (va_runV (C := y.cls) (As := As) (rest := rest) ⟨hx, hb, hml, hown, hts⟩ (hM H.size) ⟨cb_of hts v5 v4 v1 hrc hrs hd hR, hts _ v2, hts _ v3⟩ ⟨rwP_blind, ?_, ?_⟩ rfl hn hsize hst (lv_room hW) hdg hcs) hP hD hS hA hC hR9 hRn hdis kk
  · obtain ⟨cell, h1, h2, h3⟩ := va_recv hK hP hci he
    exact ⟨cell, h1, h2, by rw [← hq]; exact h3⟩
  · intro U hU hW
    exact ⟨rfl, by rw [hU], hN.warm hW, by rw [hU]; exact hPc, va_K.moved hW.alike hK, (hD.sub isC hCn hC).weaken (fun _ _ _ _ => trivial)⟩
end CallRows
theorem ing0 : ∀ w ∈ u_ws "ConstraintText$ClockTable" TX0 12, w ∈ gtb := by
  intro w hw
  obtain ⟨k, hk, rfl⟩ := List.mem_map.mp hw
  have hk := List.mem_range.mp hk
  by_cases h0 : k = 0
  · subst h0; exact tw_152
  by_cases h1 : k = 1
  · subst h1; exact tw_154
  by_cases h2 : k = 2
  · subst h2; exact tw_156
  by_cases h3 : k = 3
  · subst h3; exact tw_158
  by_cases h4 : k = 4
  · subst h4; exact tw_160
  by_cases h5 : k = 5
  · subst h5; exact tw_162
  by_cases h6 : k = 6
  · subst h6; exact tw_164
  by_cases h7 : k = 7
  · subst h7; exact tw_166
  by_cases h8 : k = 8
  · subst h8; exact tw_168
  by_cases h9 : k = 9
  · subst h9; exact tw_170
  by_cases h10 : k = 10
  · subst h10; exact tw_172
  by_cases h11 : k = 11
  · subst h11; exact tw_174
  omega
theorem ing1 : ∀ w ∈ u_ws "ConstraintText$Pins" TX1 2, w ∈ gtb := by
  intro w hw
  obtain ⟨k, hk, rfl⟩ := List.mem_map.mp hw
  have hk := List.mem_range.mp hk
  by_cases h0 : k = 0
  · subst h0; exact tw_253
  by_cases h1 : k = 1
  · subst h1; exact tw_255
  omega
theorem ing2 : ∀ w ∈ u_ws "ConstraintText$Reader" TX2 8, w ∈ gtb := by
  intro w hw
  obtain ⟨k, hk, rfl⟩ := List.mem_map.mp hw
  have hk := List.mem_range.mp hk
  by_cases h0 : k = 0
  · subst h0; exact tw_228
  by_cases h1 : k = 1
  · subst h1; exact tw_230
  by_cases h2 : k = 2
  · subst h2; exact tw_232
  by_cases h3 : k = 3
  · subst h3; exact tw_234
  by_cases h4 : k = 4
  · subst h4; exact tw_236
  by_cases h5 : k = 5
  · subst h5; exact tw_238
  by_cases h6 : k = 6
  · subst h6; exact tw_240
  by_cases h7 : k = 7
  · subst h7; exact tw_242
  omega
theorem ing3 : ∀ w ∈ u_ws "ConstraintText$Sheet" TX3 10, w ∈ gtb := by
  intro w hw
  obtain ⟨k, hk, rfl⟩ := List.mem_map.mp hw
  have hk := List.mem_range.mp hk
  by_cases h0 : k = 0
  · subst h0; exact tw_198
  by_cases h1 : k = 1
  · subst h1; exact tw_200
  by_cases h2 : k = 2
  · subst h2; exact tw_202
  by_cases h3 : k = 3
  · subst h3; exact tw_204
  by_cases h4 : k = 4
  · subst h4; exact tw_206
  by_cases h5 : k = 5
  · subst h5; exact tw_208
  by_cases h6 : k = 6
  · subst h6; exact tw_210
  by_cases h7 : k = 7
  · subst h7; exact tw_212
  by_cases h8 : k = 8
  · subst h8; exact tw_214
  by_cases h9 : k = 9
  · subst h9; exact tw_216
  omega
theorem ing4 : ∀ w ∈ u_ws "ConstraintText$Tape" TX4 2, w ∈ gtb := by
  intro w hw
  obtain ⟨k, hk, rfl⟩ := List.mem_map.mp hw
  have hk := List.mem_range.mp hk
  by_cases h0 : k = 0
  · subst h0; exact tw_116
  by_cases h1 : k = 1
  · subst h1; exact tw_118
  omega
theorem ing5 : ∀ w ∈ u_ws "ConstraintText" TX5 4, w ∈ gtb := by
  intro w hw
  obtain ⟨k, hk, rfl⟩ := List.mem_map.mp hw
  have hk := List.mem_range.mp hk
  by_cases h0 : k = 0
  · subst h0; exact tw_264
  by_cases h1 : k = 1
  · subst h1; exact tw_266
  by_cases h2 : k = 2
  · subst h2; exact tw_268
  by_cases h3 : k = 3
  · subst h3; exact tw_270
  omega
theorem ing6 : ∀ w ∈ u_ws "ConstraintTextModel" TX6 33, w ∈ gtb := by
  intro w hw
  obtain ⟨k, hk, rfl⟩ := List.mem_map.mp hw
  have hk := List.mem_range.mp hk
  by_cases h0 : k = 0
  · subst h0; exact tw_883
  by_cases h1 : k = 1
  · subst h1; exact tw_885
  by_cases h2 : k = 2
  · subst h2; exact tw_887
  by_cases h3 : k = 3
  · subst h3; exact tw_889
  by_cases h4 : k = 4
  · subst h4; exact tw_891
  by_cases h5 : k = 5
  · subst h5; exact tw_893
  by_cases h6 : k = 6
  · subst h6; exact tw_895
  by_cases h7 : k = 7
  · subst h7; exact tw_897
  by_cases h8 : k = 8
  · subst h8; exact tw_899
  by_cases h9 : k = 9
  · subst h9; exact tw_901
  by_cases h10 : k = 10
  · subst h10; exact tw_903
  by_cases h11 : k = 11
  · subst h11; exact tw_905
  by_cases h12 : k = 12
  · subst h12; exact tw_907
  by_cases h13 : k = 13
  · subst h13; exact tw_909
  by_cases h14 : k = 14
  · subst h14; exact tw_911
  by_cases h15 : k = 15
  · subst h15; exact tw_913
  by_cases h16 : k = 16
  · subst h16; exact tw_915
  by_cases h17 : k = 17
  · subst h17; exact tw_917
  by_cases h18 : k = 18
  · subst h18; exact tw_919
  by_cases h19 : k = 19
  · subst h19; exact tw_921
  by_cases h20 : k = 20
  · subst h20; exact tw_923
  by_cases h21 : k = 21
  · subst h21; exact tw_925
  by_cases h22 : k = 22
  · subst h22; exact tw_927
  by_cases h23 : k = 23
  · subst h23; exact tw_929
  by_cases h24 : k = 24
  · subst h24; exact tw_931
  by_cases h25 : k = 25
  · subst h25; exact tw_933
  by_cases h26 : k = 26
  · subst h26; exact tw_935
  by_cases h27 : k = 27
  · subst h27; exact tw_937
  by_cases h28 : k = 28
  · subst h28; exact tw_939
  by_cases h29 : k = 29
  · subst h29; exact tw_941
  by_cases h30 : k = 30
  · subst h30; exact tw_943
  by_cases h31 : k = 31
  · subst h31; exact tw_945
  by_cases h32 : k = 32
  · subst h32; exact tw_947
  omega
theorem nw_102 : (Jvm.Cond.methodLinkNest "ConstraintText" (11 : Nat) ({ cls := "ConstraintText$Reader", name := "<init>", desc := "()V" } : Jvm.MethodName) "ConstraintText") ∈ nws := nw_of 102 (by decide +kernel) rfl
theorem nw_108 : (Jvm.Cond.methodLinkNest "ConstraintText$Reader" (11 : Nat) ({ cls := "ConstraintText$Tape", name := "<init>", desc := "()V" } : Jvm.MethodName) "ConstraintText") ∈ nws := nw_of 108 (by decide +kernel) rfl
theorem nw_114 : (Jvm.Cond.fieldLinkNest "ConstraintText$Reader" (57 : Nat) "ConstraintText$Tape" "length" "I" "ConstraintText") ∈ nws := nw_of 114 (by decide +kernel) rfl
theorem nw_115 : (Jvm.Cond.fieldLinkNest "ConstraintText" (165 : Nat) "ConstraintText$Tape" "length" "I" "ConstraintText") ∈ nws := nw_of 115 (by decide +kernel) rfl
theorem nw_124 : (Jvm.Cond.methodLinkNest "ConstraintText$Reader" (33 : Nat) ({ cls := "ConstraintText$Sheet", name := "<init>", desc := "()V" } : Jvm.MethodName) "ConstraintText") ∈ nws := nw_of 124 (by decide +kernel) rfl
theorem nw_130 : (Jvm.Cond.methodLinkNest "ConstraintText$Sheet" (37 : Nat) ({ cls := "ConstraintText$ClockTable", name := "<init>", desc := "()V" } : Jvm.MethodName) "ConstraintText") ∈ nws := nw_of 130 (by decide +kernel) rfl
theorem nw_135 : (Jvm.Cond.fieldLinkNest "ConstraintText" (93 : Nat) "ConstraintText$ClockTable" "rows" "[I" "ConstraintText") ∈ nws := nw_of 135 (by decide +kernel) rfl
theorem nw_136 : (Jvm.Cond.fieldLinkNest "ConstraintText$Reader" (215 : Nat) "ConstraintText$ClockTable" "rows" "[I" "ConstraintText") ∈ nws := nw_of 136 (by decide +kernel) rfl
theorem nw_138 : (Jvm.Cond.fieldLinkNest "ConstraintText$Reader" (212 : Nat) "ConstraintText$ClockTable" "sources" "[I" "ConstraintText") ∈ nws := nw_of 138 (by decide +kernel) rfl
theorem nw_148 : (Jvm.Cond.fieldLinkNest "ConstraintText$Reader" (227 : Nat) "ConstraintText$ClockTable" "great" "[Z" "ConstraintText") ∈ nws := nw_of 148 (by decide +kernel) rfl
theorem nw_150 : (Jvm.Cond.fieldLinkNest "ConstraintText$Reader" (123 : Nat) "ConstraintText$ClockTable" "size" "I" "ConstraintText") ∈ nws := nw_of 150 (by decide +kernel) rfl
theorem nw_151 : (Jvm.Cond.fieldLinkNest "ConstraintText" (162 : Nat) "ConstraintText$ClockTable" "size" "I" "ConstraintText") ∈ nws := nw_of 151 (by decide +kernel) rfl
theorem nw_181 : (Jvm.Cond.fieldLinkNest "ConstraintText" (134 : Nat) "ConstraintText$Sheet" "sorts" "[I" "ConstraintText") ∈ nws := nw_of 181 (by decide +kernel) rfl
theorem nw_183 : (Jvm.Cond.fieldLinkNest "ConstraintText" (137 : Nat) "ConstraintText$Sheet" "values" "[I" "ConstraintText") ∈ nws := nw_of 183 (by decide +kernel) rfl
theorem nw_185 : (Jvm.Cond.fieldLinkNest "ConstraintText$Reader" (209 : Nat) "ConstraintText$Sheet" "links" "[I" "ConstraintText") ∈ nws := nw_of 185 (by decide +kernel) rfl
theorem nw_191 : (Jvm.Cond.fieldLinkNest "ConstraintText" (84 : Nat) "ConstraintText$Sheet" "clocks" "LConstraintText$ClockTable;" "ConstraintText") ∈ nws := nw_of 191 (by decide +kernel) rfl
theorem nw_192 : (Jvm.Cond.fieldLinkNest "ConstraintText$Reader" (119 : Nat) "ConstraintText$Sheet" "clocks" "LConstraintText$ClockTable;" "ConstraintText") ∈ nws := nw_of 192 (by decide +kernel) rfl
theorem nw_194 : (Jvm.Cond.fieldLinkNest "ConstraintText" (80 : Nat) "ConstraintText$Sheet" "rowCount" "I" "ConstraintText") ∈ nws := nw_of 194 (by decide +kernel) rfl
theorem nw_195 : (Jvm.Cond.fieldLinkNest "ConstraintText$Reader" (135 : Nat) "ConstraintText$Sheet" "rowCount" "I" "ConstraintText") ∈ nws := nw_of 195 (by decide +kernel) rfl
theorem nw_197 : (Jvm.Cond.fieldLinkNest "ConstraintText" (156 : Nat) "ConstraintText$Sheet" "printedLength" "I" "ConstraintText") ∈ nws := nw_of 197 (by decide +kernel) rfl
theorem nw_220 : (Jvm.Cond.fieldLinkNest "ConstraintText" (16 : Nat) "ConstraintText$Reader" "tape" "LConstraintText$Tape;" "ConstraintText") ∈ nws := nw_of 220 (by decide +kernel) rfl
theorem nw_247 : (Jvm.Cond.methodLinkNest "ConstraintText" (23 : Nat) ({ cls := "ConstraintText$Pins", name := "<init>", desc := "()V" } : Jvm.MethodName) "ConstraintText") ∈ nws := nw_of 247 (by decide +kernel) rfl
theorem nw_259 : (Jvm.Cond.methodLinkNest "ConstraintText" (30 : Nat) ({ cls := "ConstraintText$Sheet", name := "<init>", desc := "()V" } : Jvm.MethodName) "ConstraintText") ∈ nws := nw_of 259 (by decide +kernel) rfl
theorem nw_319 : (Jvm.Cond.methodLinkNest "ConstraintText$Reader" (116 : Nat) ({ cls := "ConstraintText", name := "isBlank", desc := "(I)Z" } : Jvm.MethodName) "ConstraintText") ∈ nws := nw_of 319 (by decide +kernel) rfl
theorem nw_330 : (Jvm.Cond.methodLinkNest "ConstraintText$Reader" (181 : Nat) ({ cls := "ConstraintText", name := "keyword", desc := "(I)Ljava/lang/String;" } : Jvm.MethodName) "ConstraintText") ∈ nws := nw_of 330 (by decide +kernel) rfl
theorem nw_424 : (Jvm.Cond.methodLinkNest "ConstraintText$Reader" (196 : Nat) ({ cls := "ConstraintText", name := "isSmallLetter", desc := "(I)Z" } : Jvm.MethodName) "ConstraintText") ∈ nws := nw_of 424 (by decide +kernel) rfl
theorem nw_452 : (Jvm.Cond.methodLinkNest "ConstraintText$Reader" (202 : Nat) ({ cls := "ConstraintText", name := "isDigit", desc := "(I)Z" } : Jvm.MethodName) "ConstraintText") ∈ nws := nw_of 452 (by decide +kernel) rfl
theorem nw_481 : (Jvm.Cond.methodLinkNest "ConstraintText$Reader" (199 : Nat) ({ cls := "ConstraintText", name := "isNameUnit", desc := "(I)Z" } : Jvm.MethodName) "ConstraintText") ∈ nws := nw_of 481 (by decide +kernel) rfl
theorem nw_562 : (Jvm.Cond.methodLinkNest "ConstraintText$ClockTable" (59 : Nat) ({ cls := "ConstraintText", name := "commonDivisor", desc := "(JJ)J" } : Jvm.MethodName) "ConstraintText") ∈ nws := nw_of 562 (by decide +kernel) rfl
theorem nw_719 : (Jvm.Cond.methodLinkNest "ConstraintText$ClockTable" (67 : Nat) ({ cls := "ConstraintText", name := "lowestPart", desc := "(JJI)J" } : Jvm.MethodName) "ConstraintText") ∈ nws := nw_of 719 (by decide +kernel) rfl
theorem nw_825 : (Jvm.Cond.methodLinkNest "ConstraintText$Sheet" (121 : Nat) ({ cls := "ConstraintText", name := "makesClock", desc := "(I)Z" } : Jvm.MethodName) "ConstraintText") ∈ nws := nw_of 825 (by decide +kernel) rfl
end
section
def f0_has (p1 : Int32) (ck : T0) : Option (Int32) :=
  if p1 < (0 : Int32) then
    some (0 : Int32)
  else
    if ck.2.2.2.2.2.2.2.2.2.2.2 ≤ p1 then
      some (0 : Int32)
    else
      some (1 : Int32)
def f5_isDigit (p1 : Int32) : Option (Int32) :=
  if p1 < (48 : Int32) then
    some (0 : Int32)
  else
    if (57 : Int32) < p1 then
      some (0 : Int32)
    else
      some (1 : Int32)
def f5_isBlank (p1 : Int32) : Option (Int32) :=
  if p1 = (32 : Int32) then
    some (1 : Int32)
  else
    if p1 = (10 : Int32) then
      some (1 : Int32)
    else
      some (0 : Int32)
def f5_makesClock (p1 : Int32) : Option (Int32) :=
  if p1 = (0 : Int32) then
    some (1 : Int32)
  else
    if p1 = (1 : Int32) then
      some (1 : Int32)
    else
      if p1 = (2 : Int32) then
        some (1 : Int32)
      else
        some (0 : Int32)
def f4_at (p1 : Int32) (tp : T4) : Option (Int32) :=
  if p1 < (0 : Int32) then
    some (0 : Int32)
  else
    if tp.2 ≤ p1 then
      some (0 : Int32)
    else
      grd (inb p1 1200) <|
      grd (isC (tp.1 p1.toNatClampNeg)) <|
      some (tp.1 p1.toNatClampNeg)
def f3_patternOf (p1 : Int32) (p2 : Int32) (sh : T3) : Option (Int32) :=
  jn (fun (v27 : Int32) =>
    if v27 = (0 : Int32) then
      some (-1 : Int32)
    else
      some (((p1 - (1 : Int32)) * (3 : Int32)) + p2)
    ) (fun k27 =>
    if p1 < (1 : Int32) then
      k27 (0 : Int32)
    else
      if sh.2.2.2.2.2.2.2.1 < p1 then
        k27 (0 : Int32)
      else
        if p2 < (0 : Int32) then
          k27 (0 : Int32)
        else
          if (3 : Int32) ≤ p2 then
            k27 (0 : Int32)
          else
            k27 (1 : Int32)
    )
def f3_hitsOf (p1 : Int32) (p2 : Int32) (sh : T3) : Option (Int64) :=
  bnd (f3_patternOf p1 p2 sh) fun u3 =>
  if u3 = (-1 : Int32) then
    some (0 : Int64)
  else
    grd (inb u3 120) <|
    some (sh.2.2.2.2.2.1 u3.toNatClampNeg)
def f3_haveClash (p1 : Int32) (p2 : Int32) (sh : T3) : Option (Int32) :=
  grd (inb (p1 - (1 : Int32)) 40) <|
  grd (inb (p2 - (1 : Int32)) 40) <|
  bnd (f5_makesClock (sh.1 (p1 - (1 : Int32)).toNatClampNeg)) fun u20 =>
  jn (fun (v39 : Int32) =>
    jn (fun (v83 : Int32) =>
      jn (fun (v95 : Unit) =>
        bnd (f3_hitsOf p1 (0 : Int32) sh) fun u98 =>
        bnd (f3_hitsOf p2 (0 : Int32) sh) fun u104 =>
        if (lg_cmp (u98 &&& u104) (0 : Int64)) = (0 : Int32) then
          some (0 : Int32)
        else
          some (1 : Int32)
        ) (fun k95 =>
        if v39 = (0 : Int32) then
          if v83 = (0 : Int32) then
            some (0 : Int32)
          else
            k95 ()
        else
          k95 ()
        )
      ) (fun k83 =>
      jn (fun (v53 : Unit) =>
        if (sh.1 (p1 - (1 : Int32)).toNatClampNeg) = (sh.1 (p2 - (1 : Int32)).toNatClampNeg) then
          grd (inb (p1 - (1 : Int32)) 40) <|
          grd (inb (p2 - (1 : Int32)) 40) <|
          if (sh.2.1 (p1 - (1 : Int32)).toNatClampNeg) = (sh.2.1 (p2 - (1 : Int32)).toNatClampNeg) then
            k83 (0 : Int32)
          else
            k83 (1 : Int32)
        else
          k83 (0 : Int32)
        ) (fun k53 =>
        if (sh.1 (p1 - (1 : Int32)).toNatClampNeg) = (8 : Int32) then
          k53 ()
        else
          if (sh.1 (p1 - (1 : Int32)).toNatClampNeg) = (9 : Int32) then
            k53 ()
          else
            k83 (0 : Int32)
        )
      )
    ) (fun k39 =>
    if u20 = (0 : Int32) then
      k39 (0 : Int32)
    else
      bnd (f5_makesClock (sh.1 (p2 - (1 : Int32)).toNatClampNeg)) fun u28 =>
      if u28 = (0 : Int32) then
        k39 (0 : Int32)
      else
        k39 (1 : Int32)
    )
def f3_strengthOf (p1 : Int32) : Option (Int32) :=
  if p1 = (4 : Int32) then
    some (3 : Int32)
  else
    if p1 = (5 : Int32) then
      some (1 : Int32)
    else
      if p1 = (6 : Int32) then
        some (2 : Int32)
      else
        if p1 = (7 : Int32) then
          some (2 : Int32)
        else
          some (0 : Int32)
def f3_clashingRow_L20 (p1 : Int32) (sh : T3) (s5 : Int32 × Int32) (s20 : Int32 × Int32) : Option ((Int32 × Int32) ⊕ ((Int32) ⊕ ((Int32)))) :=
  if sh.2.2.2.2.2.2.2.1 < s20.2 then
    some (.inr (.inr s20.1))
  else
    bnd (f3_haveClash s5.2 s20.2 sh) fun u34 =>
    jn (fun (v60 : Int32) =>
      some (.inl (v60, (s20.2 + (1 : Int32))))
      ) (fun k60 =>
      if u34 = (0 : Int32) then
        k60 s20.1
      else
        if s20.1 = p1 then
          some (.inr (.inl s20.2))
        else
          k60 (s20.1 + (1 : Int32))
      )
def f3_clashingRow_L5 (F : Nat) (p1 : Int32) (sh : T3) (s5 : Int32 × Int32) : Option ((Int32 × Int32) ⊕ ((Int32 × Int32) ⊕ ((Unit)))) :=
  if sh.2.2.2.2.2.2.2.1 < s5.2 then
    some (.inr (.inr ()))
  else
    bnd (iter (f3_clashingRow_L20 p1 sh s5) F (s5.1, (s5.2 + (1 : Int32)))) (
      fun (e20y : (Int32) ⊕ (Int32)) => cas e20y (fun (x45 : Int32) =>
        some (.inr (.inl (s5.2, x45)))
        ) (
        fun (x66 : Int32) =>
          some (.inl (x66, (s5.2 + (1 : Int32))))
        )
      )
def f3_clashingRow (F : Nat) (p1 : Int32) (p2 : Int32) (sh : T3) : Option (Int32) :=
  bnd (iter (f3_clashingRow_L5 F p1 sh) F ((0 : Int32), (1 : Int32))) (
    fun (e5y : (Int32 × Int32) ⊕ (Unit)) => cas e5y (fun (x45 : Int32 × Int32) =>
      if p2 = (0 : Int32) then
        some x45.1
      else
        some x45.2
      ) (
      fun (x72 : Unit) =>
        some (-1 : Int32)
      )
    )
abbrev rm0_has : Room := { frames := 0, cells := 0, slots := 0, locals := 0 }
set_option maxHeartbeats 4000000 in
set_option maxRecDepth 100000 in
theorem c0_has (l : Launch) (D : va_G) (kA : Nat → ClassId) (a_ck : Nat → Nat) (p1 : Int32) (ck : T0) (res : Int32) (h : f0_has p1 ck = some res) : Ro l yX0_has cX0_has 2 (some .boolean) rm0_has D kA [.ref (a_ck 0), .int p1] [(a_ck 0, .inr (0, [.ref (a_ck 1), .ref (a_ck 2), .ref (a_ck 3), .ref (a_ck 4), .ref (a_ck 5), .ref (a_ck 6), .ref (a_ck 7), .ref (a_ck 8), .ref (a_ck 9), .ref (a_ck 10), .ref (a_ck 11), .int ck.2.2.2.2.2.2.2.2.2.2.2])), (a_ck 1, .inl (kA 0, 12, .inl ck.1)), (a_ck 2, .inl (kA 0, 12, .inl ck.2.1)), (a_ck 3, .inl (kA 3, 12, .inl ck.2.2.1)), (a_ck 4, .inl (kA 0, 12, .inl ck.2.2.2.1)), (a_ck 5, .inl (kA 0, 12, .inl ck.2.2.2.2.1)), (a_ck 6, .inl (kA 2, 12, .inr (.inl ck.2.2.2.2.2.1))), (a_ck 7, .inl (kA 2, 12, .inr (.inl ck.2.2.2.2.2.2.1))), (a_ck 8, .inl (kA 2, 12, .inr (.inl ck.2.2.2.2.2.2.2.1))), (a_ck 9, .inl (kA 2, 12, .inr (.inl ck.2.2.2.2.2.2.2.2.1))), (a_ck 10, .inl (kA 3, 12, .inl ck.2.2.2.2.2.2.2.2.2.1)), (a_ck 11, .inl (kA 3, 12, .inl ck.2.2.2.2.2.2.2.2.2.2.1))] (.int res) := by
  refine Ro.of (by decide) (Nat.le_of_ble_eq_true rfl) ?_
  intro p e s m args below meth c hF hP hK ls hl
  generalize hQ : roQ below _ args s = Q
  obtain ⟨hx, hb, hml, hown, hr, hk, hts, hN⟩ := hF
  have hl : lv_has ls 2 [(0, .ref (a_ck 0)), (1, .int p1)] := hl
  unfold f0_has at h
  refine lv_iload_n hx hb dX0_has_0 rfl (lv_at hl 1 rfl) ?_
  refine lv_if_lt (tgt := 16) hx hb dX0_has_1 (by decide) (fun bc => ?_) (fun bc => ?_)
  · have h := ite_t bc h
    refine lv_iconst (v := 0) hx hb dX0_has_16 (by decide) ?_
    obtain rfl := Option.some.inj h
    rw [← hQ]
    exact ro_zreturn hx hb hr hk (by decide) dX0_has_17
  · have h := ite_f bc h
    refine lv_iload_n hx hb dX0_has_4 rfl (lv_at hl 1 rfl) ?_
    refine lv_aload_n hx hb dX0_has_5 rfl (lv_at hl 0 rfl) ?_
    refine va_get (D := D) (ci := 0) (v := .int ck.2.2.2.2.2.2.2.2.2.2.2) (C := "ConstraintText$ClockTable") (T := TX0) (N := 12) hx hb hts ing0 hown hK hP 0 rfl rfl 11 (by decide) (hts _ tw_149) (fun _ h9 => h9) rfl dX0_has_6 ?_
    refine lv_icmp_ge (tgt := 16) hx hb dX0_has_9 (by decide) (fun bc => ?_) (fun bc => ?_)
    · have h := ite_t bc h
      refine lv_iconst (v := 0) hx hb dX0_has_16 (by decide) ?_
      obtain rfl := Option.some.inj h
      rw [← hQ]
      exact ro_zreturn hx hb hr hk (by decide) dX0_has_17
    · have h := ite_f bc h
      refine lv_iconst (v := 1) hx hb dX0_has_12 (by decide) ?_
      refine lv_goto (tgt := 17) hx hb dX0_has_13 (by decide) ?_
      obtain rfl := Option.some.inj h
      rw [← hQ]
      exact ro_zreturn hx hb hr hk (by decide) dX0_has_17
abbrev rm5_isDigit : Room := { frames := 0, cells := 0, slots := 0, locals := 0 }
set_option maxHeartbeats 4000000 in
set_option maxRecDepth 100000 in
theorem c5_isDigit (l : Launch) (D : va_G) (kA : Nat → ClassId)  (p1 : Int32) (res : Int32) (h : f5_isDigit p1 = some res) : Ro l yX5_isDigit cX5_isDigit 1 (some .boolean) rm5_isDigit D kA [.int p1] [] (.int res) := by
  refine Ro.of (by decide) (Nat.le_of_ble_eq_true rfl) ?_
  intro p e s m args below meth c hF hP hK ls hl
  generalize hQ : roQ below _ args s = Q
  obtain ⟨hx, hb, hml, hown, hr, hk, hts, hN⟩ := hF
  have hl : lv_has ls 1 [(0, .int p1)] := hl
  unfold f5_isDigit at h
  refine lv_iload_n hx hb dX5_isDigit_0 rfl (lv_at hl 0 rfl) ?_
  refine lv_bipush (v := 48) hx hb dX5_isDigit_1 (by decide) ?_
  refine lv_icmp_lt (tgt := 16) hx hb dX5_isDigit_3 (by decide) (fun bc => ?_) (fun bc => ?_)
  · have h := ite_t bc h
    refine lv_iconst (v := 0) hx hb dX5_isDigit_16 (by decide) ?_
    obtain rfl := Option.some.inj h
    rw [← hQ]
    exact ro_zreturn hx hb hr hk (by decide) dX5_isDigit_17
  · have h := ite_f bc h
    refine lv_iload_n hx hb dX5_isDigit_6 rfl (lv_at hl 0 rfl) ?_
    refine lv_bipush (v := 57) hx hb dX5_isDigit_7 (by decide) ?_
    refine lv_icmp_gt (tgt := 16) hx hb dX5_isDigit_9 (by decide) (fun bc => ?_) (fun bc => ?_)
    · have h := ite_t bc h
      refine lv_iconst (v := 0) hx hb dX5_isDigit_16 (by decide) ?_
      obtain rfl := Option.some.inj h
      rw [← hQ]
      exact ro_zreturn hx hb hr hk (by decide) dX5_isDigit_17
    · have h := ite_f bc h
      refine lv_iconst (v := 1) hx hb dX5_isDigit_12 (by decide) ?_
      refine lv_goto (tgt := 17) hx hb dX5_isDigit_13 (by decide) ?_
      obtain rfl := Option.some.inj h
      rw [← hQ]
      exact ro_zreturn hx hb hr hk (by decide) dX5_isDigit_17
abbrev rm5_isBlank : Room := { frames := 0, cells := 0, slots := 0, locals := 0 }
set_option maxHeartbeats 4000000 in
set_option maxRecDepth 100000 in
theorem c5_isBlank (l : Launch) (D : va_G) (kA : Nat → ClassId)  (p1 : Int32) (res : Int32) (h : f5_isBlank p1 = some res) : Ro l yX5_isBlank cX5_isBlank 1 (some .boolean) rm5_isBlank D kA [.int p1] [] (.int res) := by
  refine Ro.of (by decide) (Nat.le_of_ble_eq_true rfl) ?_
  intro p e s m args below meth c hF hP hK ls hl
  generalize hQ : roQ below _ args s = Q
  obtain ⟨hx, hb, hml, hown, hr, hk, hts, hN⟩ := hF
  have hl : lv_has ls 1 [(0, .int p1)] := hl
  unfold f5_isBlank at h
  refine lv_iload_n hx hb dX5_isBlank_0 rfl (lv_at hl 0 rfl) ?_
  refine lv_bipush (v := 32) hx hb dX5_isBlank_1 (by decide) ?_
  refine lv_icmp_eq (tgt := 12) hx hb dX5_isBlank_3 (by decide) (fun bc => ?_) (fun bc => ?_)
  · have h := ite_t bc h
    refine lv_iconst (v := 1) hx hb dX5_isBlank_12 (by decide) ?_
    refine lv_goto (tgt := 17) hx hb dX5_isBlank_13 (by decide) ?_
    obtain rfl := Option.some.inj h
    rw [← hQ]
    exact ro_zreturn hx hb hr hk (by decide) dX5_isBlank_17
  · have h := ite_f bc h
    refine lv_iload_n hx hb dX5_isBlank_6 rfl (lv_at hl 0 rfl) ?_
    refine lv_bipush (v := 10) hx hb dX5_isBlank_7 (by decide) ?_
    refine lv_icmp_ne (tgt := 16) hx hb dX5_isBlank_9 (by decide) (fun bc => ?_) (fun bc => ?_)
    · have h := ite_f bc h
      refine lv_iconst (v := 0) hx hb dX5_isBlank_16 (by decide) ?_
      obtain rfl := Option.some.inj h
      rw [← hQ]
      exact ro_zreturn hx hb hr hk (by decide) dX5_isBlank_17
    · have h := ite_t bc h
      refine lv_iconst (v := 1) hx hb dX5_isBlank_12 (by decide) ?_
      refine lv_goto (tgt := 17) hx hb dX5_isBlank_13 (by decide) ?_
      obtain rfl := Option.some.inj h
      rw [← hQ]
      exact ro_zreturn hx hb hr hk (by decide) dX5_isBlank_17
abbrev rm5_makesClock : Room := { frames := 0, cells := 0, slots := 0, locals := 0 }
set_option maxHeartbeats 4000000 in
set_option maxRecDepth 100000 in
theorem c5_makesClock (l : Launch) (D : va_G) (kA : Nat → ClassId)  (p1 : Int32) (res : Int32) (h : f5_makesClock p1 = some res) : Ro l yX5_makesClock cX5_makesClock 1 (some .boolean) rm5_makesClock D kA [.int p1] [] (.int res) := by
  refine Ro.of (by decide) (Nat.le_of_ble_eq_true rfl) ?_
  intro p e s m args below meth c hF hP hK ls hl
  generalize hQ : roQ below _ args s = Q
  obtain ⟨hx, hb, hml, hown, hr, hk, hts, hN⟩ := hF
  have hl : lv_has ls 1 [(0, .int p1)] := hl
  unfold f5_makesClock at h
  refine lv_iload_n hx hb dX5_makesClock_0 rfl (lv_at hl 0 rfl) ?_
  refine lv_if_eq (tgt := 14) hx hb dX5_makesClock_1 (by decide) (fun bc => ?_) (fun bc => ?_)
  · have h := ite_t bc h
    refine lv_iconst (v := 1) hx hb dX5_makesClock_14 (by decide) ?_
    refine lv_goto (tgt := 19) hx hb dX5_makesClock_15 (by decide) ?_
    obtain rfl := Option.some.inj h
    rw [← hQ]
    exact ro_zreturn hx hb hr hk (by decide) dX5_makesClock_19
  · have h := ite_f bc h
    refine lv_iload_n hx hb dX5_makesClock_4 rfl (lv_at hl 0 rfl) ?_
    refine lv_iconst (v := 1) hx hb dX5_makesClock_5 (by decide) ?_
    refine lv_icmp_eq (tgt := 14) hx hb dX5_makesClock_6 (by decide) (fun bc => ?_) (fun bc => ?_)
    · have h := ite_t bc h
      refine lv_iconst (v := 1) hx hb dX5_makesClock_14 (by decide) ?_
      refine lv_goto (tgt := 19) hx hb dX5_makesClock_15 (by decide) ?_
      obtain rfl := Option.some.inj h
      rw [← hQ]
      exact ro_zreturn hx hb hr hk (by decide) dX5_makesClock_19
    · have h := ite_f bc h
      refine lv_iload_n hx hb dX5_makesClock_9 rfl (lv_at hl 0 rfl) ?_
      refine lv_iconst (v := 2) hx hb dX5_makesClock_10 (by decide) ?_
      refine lv_icmp_ne (tgt := 18) hx hb dX5_makesClock_11 (by decide) (fun bc => ?_) (fun bc => ?_)
      · have h := ite_f bc h
        refine lv_iconst (v := 0) hx hb dX5_makesClock_18 (by decide) ?_
        obtain rfl := Option.some.inj h
        rw [← hQ]
        exact ro_zreturn hx hb hr hk (by decide) dX5_makesClock_19
      · have h := ite_t bc h
        refine lv_iconst (v := 1) hx hb dX5_makesClock_14 (by decide) ?_
        refine lv_goto (tgt := 19) hx hb dX5_makesClock_15 (by decide) ?_
        obtain rfl := Option.some.inj h
        rw [← hQ]
        exact ro_zreturn hx hb hr hk (by decide) dX5_makesClock_19
abbrev rm4_at : Room := { frames := 0, cells := 0, slots := 0, locals := 0 }
set_option maxHeartbeats 4000000 in
set_option maxRecDepth 100000 in
theorem c4_at (l : Launch) (D : va_G) (kA : Nat → ClassId) (a_tp : Nat → Nat) (p1 : Int32) (tp : T4) (res : Int32) (h : f4_at p1 tp = some res) : Ro l yX4_at cX4_at 2 (some .char) rm4_at D kA [.ref (a_tp 0), .int p1] [(a_tp 0, .inr (4, [.ref (a_tp 1), .int tp.2])), (a_tp 1, .inl (kA 1, 1200, .inl tp.1))] (.int res) := by
  refine Ro.of (by decide) (Nat.le_of_ble_eq_true rfl) ?_
  intro p e s m args below meth c hF hP hK ls hl
  generalize hQ : roQ below _ args s = Q
  obtain ⟨hx, hb, hml, hown, hr, hk, hts, hN⟩ := hF
  have hl : lv_has ls 2 [(0, .ref (a_tp 0)), (1, .int p1)] := hl
  unfold f4_at at h
  refine lv_iload_n hx hb dX4_at_0 rfl (lv_at hl 1 rfl) ?_
  refine lv_if_lt (tgt := 21) hx hb dX4_at_1 (by decide) (fun bc => ?_) (fun bc => ?_)
  · have h := ite_t bc h
    refine lv_iconst (v := 0) hx hb dX4_at_21 (by decide) ?_
    obtain rfl := Option.some.inj h
    rw [← hQ]
    exact ro_zreturn hx hb hr hk (by decide) dX4_at_22
  · have h := ite_f bc h
    refine lv_iload_n hx hb dX4_at_4 rfl (lv_at hl 1 rfl) ?_
    refine lv_aload_n hx hb dX4_at_5 rfl (lv_at hl 0 rfl) ?_
    refine va_get (D := D) (ci := 4) (v := .int tp.2) (C := "ConstraintText$Tape") (T := TX4) (N := 2) hx hb hts ing4 hown hK hP 0 rfl rfl 1 (by decide) (hts _ tw_113) (fun _ h9 => h9) rfl dX4_at_6 ?_
    refine lv_icmp_ge (tgt := 21) hx hb dX4_at_9 (by decide) (fun bc => ?_) (fun bc => ?_)
    · have h := ite_t bc h
      refine lv_iconst (v := 0) hx hb dX4_at_21 (by decide) ?_
      obtain rfl := Option.some.inj h
      rw [← hQ]
      exact ro_zreturn hx hb hr hk (by decide) dX4_at_22
    · have h := ite_f bc h
      refine lv_aload_n hx hb dX4_at_12 rfl (lv_at hl 0 rfl) ?_
      refine va_get (D := D) (ci := 4) (v := .ref (a_tp 1)) (C := "ConstraintText$Tape") (T := TX4) (N := 2) hx hb hts ing4 hown hK hP 0 rfl rfl 0 (by decide) (hts _ tw_112) (fun _ h9 => h9) rfl dX4_at_13 ?_
      refine lv_iload_n hx hb dX4_at_16 rfl (lv_at hl 1 rfl) ?_
      obtain ⟨g17, h⟩ := grd_some h
      refine va_cald hx hb hK hP 1 1 rfl rfl (inb_in g17) dX4_at_17 ?_
      refine lv_goto (tgt := 22) hx hb dX4_at_18 (by decide) ?_
      obtain ⟨gr, h⟩ := grd_some h
      obtain rfl := Option.some.inj h
      rw [← hQ]
      exact ro_zreturn hx hb hr hk (of_decide_eq_true gr) dX4_at_22
abbrev rm3_patternOf : Room := { frames := 0, cells := 0, slots := 0, locals := 0 }
set_option maxHeartbeats 4000000 in
set_option maxRecDepth 100000 in
theorem c3_patternOf (l : Launch) (D : va_G) (kA : Nat → ClassId) (a_sh : Nat → Nat) (a_ck : Nat → Nat) (p1 : Int32) (p2 : Int32) (sh : T3) (res : Int32) (h : f3_patternOf p1 p2 sh = some res) : Ro l yX3_patternOf cX3_patternOf 4 (some .int) rm3_patternOf D kA [.ref (a_sh 0), .int p1, .int p2] [(a_sh 0, .inr (3, [.ref (a_sh 1), .ref (a_sh 2), .ref (a_sh 3), .ref (a_sh 4), .ref (a_sh 5), .ref (a_sh 6), .ref (a_sh 7), .ref (a_ck 0), .int sh.2.2.2.2.2.2.2.1, .int sh.2.2.2.2.2.2.2.2])), (a_sh 1, .inl (kA 0, 40, .inl sh.1)), (a_sh 2, .inl (kA 0, 40, .inl sh.2.1)), (a_sh 3, .inl (kA 0, 80, .inl sh.2.2.1)), (a_sh 4, .inl (kA 0, 120, .inl sh.2.2.2.1)), (a_sh 5, .inl (kA 0, 120, .inl sh.2.2.2.2.1)), (a_sh 6, .inl (kA 2, 120, .inr (.inl sh.2.2.2.2.2.1))), (a_sh 7, .inl (kA 1, 1240, .inl sh.2.2.2.2.2.2.1))] (.int res) := by
  refine Ro.of (by decide) (Nat.le_of_ble_eq_true rfl) ?_
  intro p e s m args below meth c hF hP hK ls hl
  generalize hQ : roQ below _ args s = Q
  obtain ⟨hx, hb, hml, hown, hr, hk, hts, hN⟩ := hF
  have hl : lv_has ls 4 [(0, .ref (a_sh 0)), (1, .int p1), (2, .int p2)] := hl
  unfold f3_patternOf at h
  refine lv_iload_n hx hb dX3_patternOf_0 rfl (lv_at hl 1 rfl) ?_
  refine lv_iconst (v := 1) hx hb dX3_patternOf_1 (by decide) ?_
  obtain ⟨k27, hk27, h⟩ := jn_name h
  have j27 : ∀ (v27 : Int32) (ls : Array Slot), k27 v27 = some res → lv_has ls 4 [(1, .int p1), (2, .int p2)] → W p l e rm3_patternOf s m args below meth c s.heap [] 0 0 Q (F0 m 27 ls [.int v27]) := by
    intro v27 ls h hl
    have h := app_of hk27 h
    refine lv_istore_n (lv' := [(3, .int v27), (1, .int p1), (2, .int p2)]) hx hb dX3_patternOf_27 rfl hl (by decide) rfl (fun ls hl => ?_)
    refine lv_iload_n hx hb dX3_patternOf_28 rfl (lv_at hl 0 rfl) ?_
    refine lv_if_eq (tgt := 42) hx hb dX3_patternOf_29 (by decide) (fun bc => ?_) (fun bc => ?_)
    · have h := ite_t bc h
      refine lv_iconst (v := -1) hx hb dX3_patternOf_42 (by decide) ?_
      obtain rfl := Option.some.inj h
      rw [← hQ]
      exact ro_ireturn hx hb hr hk  dX3_patternOf_43
    · have h := ite_f bc h
      refine lv_iload_n hx hb dX3_patternOf_32 rfl (lv_at hl 1 rfl) ?_
      refine lv_iconst (v := 1) hx hb dX3_patternOf_33 (by decide) ?_
      refine lv_isub hx hb dX3_patternOf_34 ?_
      refine lv_iconst (v := 3) hx hb dX3_patternOf_35 (by decide) ?_
      refine lv_imul hx hb dX3_patternOf_36 ?_
      refine lv_iload_n hx hb dX3_patternOf_37 rfl (lv_at hl 2 rfl) ?_
      refine lv_iadd hx hb dX3_patternOf_38 ?_
      refine lv_goto (tgt := 43) hx hb dX3_patternOf_39 (by decide) ?_
      obtain rfl := Option.some.inj h
      rw [← hQ]
      exact ro_ireturn hx hb hr hk  dX3_patternOf_43
  refine lv_icmp_lt (tgt := 26) hx hb dX3_patternOf_2 (by decide) (fun bc => ?_) (fun bc => ?_)
  · have h := ite_t bc h
    refine lv_iconst (v := 0) hx hb dX3_patternOf_26 (by decide) ?_
    exact j27 _ ls h (lv_sub hl [1, 2] rfl)
  · have h := ite_f bc h
    refine lv_iload_n hx hb dX3_patternOf_5 rfl (lv_at hl 1 rfl) ?_
    refine lv_aload_n hx hb dX3_patternOf_6 rfl (lv_at hl 0 rfl) ?_
    refine va_get (D := D) (ci := 3) (v := .int sh.2.2.2.2.2.2.2.1) (C := "ConstraintText$Sheet") (T := TX3) (N := 10) hx hb hts ing3 hown hK hP 0 rfl rfl 8 (by decide) (hts _ tw_193) (fun _ h9 => h9) rfl dX3_patternOf_7 ?_
    refine lv_icmp_gt (tgt := 26) hx hb dX3_patternOf_10 (by decide) (fun bc => ?_) (fun bc => ?_)
    · have h := ite_t bc h
      refine lv_iconst (v := 0) hx hb dX3_patternOf_26 (by decide) ?_
      exact j27 _ ls h (lv_sub hl [1, 2] rfl)
    · have h := ite_f bc h
      refine lv_iload_n hx hb dX3_patternOf_13 rfl (lv_at hl 2 rfl) ?_
      refine lv_if_lt (tgt := 26) hx hb dX3_patternOf_14 (by decide) (fun bc => ?_) (fun bc => ?_)
      · have h := ite_t bc h
        refine lv_iconst (v := 0) hx hb dX3_patternOf_26 (by decide) ?_
        exact j27 _ ls h (lv_sub hl [1, 2] rfl)
      · have h := ite_f bc h
        refine lv_iload_n hx hb dX3_patternOf_17 rfl (lv_at hl 2 rfl) ?_
        refine lv_iconst (v := 3) hx hb dX3_patternOf_18 (by decide) ?_
        refine lv_icmp_ge (tgt := 26) hx hb dX3_patternOf_19 (by decide) (fun bc => ?_) (fun bc => ?_)
        · have h := ite_t bc h
          refine lv_iconst (v := 0) hx hb dX3_patternOf_26 (by decide) ?_
          exact j27 _ ls h (lv_sub hl [1, 2] rfl)
        · have h := ite_f bc h
          refine lv_iconst (v := 1) hx hb dX3_patternOf_22 (by decide) ?_
          refine lv_goto (tgt := 27) hx hb dX3_patternOf_23 (by decide) ?_
          exact j27 _ ls h (lv_sub hl [1, 2] rfl)
abbrev rm3_hitsOf : Room := { frames := 1, cells := 0, slots := 0, locals := 23 }
set_option maxHeartbeats 4000000 in
set_option maxRecDepth 100000 in
theorem c3_hitsOf (l : Launch) (D : va_G) (kA : Nat → ClassId) (a_sh : Nat → Nat) (a_ck : Nat → Nat) (p1 : Int32) (p2 : Int32) (sh : T3) (res : Int64) (h : f3_hitsOf p1 p2 sh = some res) : Ro l yX3_hitsOf cX3_hitsOf 4 (some .long) rm3_hitsOf D kA [.ref (a_sh 0), .int p1, .int p2] [(a_sh 0, .inr (3, [.ref (a_sh 1), .ref (a_sh 2), .ref (a_sh 3), .ref (a_sh 4), .ref (a_sh 5), .ref (a_sh 6), .ref (a_sh 7), .ref (a_ck 0), .int sh.2.2.2.2.2.2.2.1, .int sh.2.2.2.2.2.2.2.2])), (a_sh 1, .inl (kA 0, 40, .inl sh.1)), (a_sh 2, .inl (kA 0, 40, .inl sh.2.1)), (a_sh 3, .inl (kA 0, 80, .inl sh.2.2.1)), (a_sh 4, .inl (kA 0, 120, .inl sh.2.2.2.1)), (a_sh 5, .inl (kA 0, 120, .inl sh.2.2.2.2.1)), (a_sh 6, .inl (kA 2, 120, .inr (.inl sh.2.2.2.2.2.1))), (a_sh 7, .inl (kA 1, 1240, .inl sh.2.2.2.2.2.2.1))] (.long res) := by
  refine Ro.of (by decide) (Nat.le_of_ble_eq_true rfl) ?_
  intro p e s m args below meth c hF hP hK ls hl
  generalize hQ : roQ below _ args s = Q
  obtain ⟨hx, hb, hml, hown, hr, hk, hts, hN⟩ := hF
  have hl : lv_has ls 4 [(0, .ref (a_sh 0)), (1, .int p1), (2, .int p2)] := hl
  unfold f3_hitsOf at h
  refine lv_aload_n hx hb dX3_hitsOf_0 rfl (lv_at hl 0 rfl) ?_
  refine lv_iload_n hx hb dX3_hitsOf_1 rfl (lv_at hl 1 rfl) ?_
  refine lv_iload_n hx hb dX3_hitsOf_2 rfl (lv_at hl 2 rfl) ?_
  obtain ⟨u3, hc_3, h⟩ := bnd_some h
  refine ro_V (n := 2) (As := [.int p1, .int p2]) (rest := []) hx hb hml hown hts hN hK hP (c3_patternOf l D kA a_sh a_ck p1 p2 sh u3 hc_3) [0, 1, 2, 3, 4, 5, 6, 7] rfl 0 3 rfl rfl rfl tw_490 tw_492 tw_15 tw_77 tw_493 rfl rfl (by decide) ⟨Nat.le_of_ble_eq_true rfl, Nat.le_of_ble_eq_true rfl⟩ rfl hl.1 rfl (Nat.le_of_ble_eq_true rfl) dX3_hitsOf_3 ⟨Nat.le_of_ble_eq_true rfl, Nat.le_of_ble_eq_true rfl⟩ ?_
  refine lv_istore_n (lv' := [(3, .int u3), (0, .ref (a_sh 0)), (1, .int p1), (2, .int p2)]) hx hb dX3_hitsOf_6 rfl hl (by decide) rfl (fun ls hl => ?_)
  refine lv_iload_n hx hb dX3_hitsOf_7 rfl (lv_at hl 0 rfl) ?_
  refine lv_iconst (v := -1) hx hb dX3_hitsOf_8 (by decide) ?_
  refine lv_icmp_ne (tgt := 16) hx hb dX3_hitsOf_9 (by decide) (fun bc => ?_) (fun bc => ?_)
  · have h := ite_f bc h
    refine lv_aload_n hx hb dX3_hitsOf_16 rfl (lv_at hl 1 rfl) ?_
    refine va_get (D := D) (ci := 3) (v := .ref (a_sh 6)) (C := "ConstraintText$Sheet") (T := TX3) (N := 10) hx hb hts ing3 hown hK hP 0 rfl rfl 5 (by decide) (hts _ tw_188) (fun _ h9 => h9) rfl dX3_hitsOf_17 ?_
    refine lv_iload_n hx hb dX3_hitsOf_20 rfl (lv_at hl 0 rfl) ?_
    obtain ⟨g21, h⟩ := grd_some h
    refine va_lald hx hb hK hP 6 2 rfl rfl (inb_in g21) dX3_hitsOf_21 ?_
    obtain rfl := Option.some.inj h
    rw [← hQ]
    exact ro_lreturn hx hb hr hk  dX3_hitsOf_22
  · have h := ite_t bc h
    refine lv_lconst (v := 0) hx hb dX3_hitsOf_12 (by decide) ?_
    refine lv_goto (tgt := 22) hx hb dX3_hitsOf_13 (by decide) ?_
    obtain rfl := Option.some.inj h
    rw [← hQ]
    exact ro_lreturn hx hb hr hk  dX3_hitsOf_22
abbrev rm3_haveClash : Room := { frames := 2, cells := 0, slots := 0, locals := 46 }
set_option maxHeartbeats 4000000 in
set_option maxRecDepth 100000 in
theorem c3_haveClash (l : Launch) (D : va_G) (kA : Nat → ClassId) (a_sh : Nat → Nat) (a_ck : Nat → Nat) (p1 : Int32) (p2 : Int32) (sh : T3) (res : Int32) (h : f3_haveClash p1 p2 sh = some res) : Ro l yX3_haveClash cX3_haveClash 7 (some .boolean) rm3_haveClash D kA [.ref (a_sh 0), .int p1, .int p2] [(a_sh 0, .inr (3, [.ref (a_sh 1), .ref (a_sh 2), .ref (a_sh 3), .ref (a_sh 4), .ref (a_sh 5), .ref (a_sh 6), .ref (a_sh 7), .ref (a_ck 0), .int sh.2.2.2.2.2.2.2.1, .int sh.2.2.2.2.2.2.2.2])), (a_sh 1, .inl (kA 0, 40, .inl sh.1)), (a_sh 2, .inl (kA 0, 40, .inl sh.2.1)), (a_sh 3, .inl (kA 0, 80, .inl sh.2.2.1)), (a_sh 4, .inl (kA 0, 120, .inl sh.2.2.2.1)), (a_sh 5, .inl (kA 0, 120, .inl sh.2.2.2.2.1)), (a_sh 6, .inl (kA 2, 120, .inr (.inl sh.2.2.2.2.2.1))), (a_sh 7, .inl (kA 1, 1240, .inl sh.2.2.2.2.2.2.1))] (.int res) := by
  refine Ro.of (by decide) (Nat.le_of_ble_eq_true rfl) ?_
  intro p e s m args below meth c hF hP hK ls hl
  generalize hQ : roQ below _ args s = Q
  obtain ⟨hx, hb, hml, hown, hr, hk, hts, hN⟩ := hF
  have hl : lv_has ls 7 [(0, .ref (a_sh 0)), (1, .int p1), (2, .int p2)] := hl
  unfold f3_haveClash at h
  refine lv_aload_n hx hb dX3_haveClash_0 rfl (lv_at hl 0 rfl) ?_
  refine va_get (D := D) (ci := 3) (v := .ref (a_sh 1)) (C := "ConstraintText$Sheet") (T := TX3) (N := 10) hx hb hts ing3 hown hK hP 0 rfl rfl 0 (by decide) (hts _ tw_180) (fun _ h9 => h9) rfl dX3_haveClash_1 ?_
  refine lv_iload_n hx hb dX3_haveClash_4 rfl (lv_at hl 1 rfl) ?_
  refine lv_iconst (v := 1) hx hb dX3_haveClash_5 (by decide) ?_
  refine lv_isub hx hb dX3_haveClash_6 ?_
  obtain ⟨g7, h⟩ := grd_some h
  refine va_iald hx hb hK hP 1 0 rfl rfl (inb_in g7) dX3_haveClash_7 ?_
  refine lv_istore_n (lv' := [(3, .int (sh.1 (p1 - (1 : Int32)).toNatClampNeg)), (0, .ref (a_sh 0)), (1, .int p1), (2, .int p2)]) hx hb dX3_haveClash_8 rfl hl (by decide) rfl (fun ls hl => ?_)
  refine lv_aload_n hx hb dX3_haveClash_9 rfl (lv_at hl 1 rfl) ?_
  refine va_get (D := D) (ci := 3) (v := .ref (a_sh 1)) (C := "ConstraintText$Sheet") (T := TX3) (N := 10) hx hb hts ing3 hown hK hP 0 rfl rfl 0 (by decide) (hts _ tw_180) (fun _ h9 => h9) rfl dX3_haveClash_10 ?_
  refine lv_iload_n hx hb dX3_haveClash_13 rfl (lv_at hl 3 rfl) ?_
  refine lv_iconst (v := 1) hx hb dX3_haveClash_14 (by decide) ?_
  refine lv_isub hx hb dX3_haveClash_15 ?_
  obtain ⟨g16, h⟩ := grd_some h
  refine va_iald hx hb hK hP 1 0 rfl rfl (inb_in g16) dX3_haveClash_16 ?_
  refine lv_istore (lv' := [(4, .int (sh.1 (p2 - (1 : Int32)).toNatClampNeg)), (3, .int (sh.1 (p1 - (1 : Int32)).toNatClampNeg)), (0, .ref (a_sh 0)), (1, .int p1), (2, .int p2)]) hx hb dX3_haveClash_17 hl (by decide) rfl (fun ls hl => ?_)
  refine lv_iload_n hx hb dX3_haveClash_19 rfl (lv_at hl 1 rfl) ?_
  obtain ⟨u20, hc_20, h⟩ := bnd_some h
  refine ro_SN (n := 1) (As := [.int (sh.1 (p1 - (1 : Int32)).toNatClampNeg)]) (rest := []) hx hb hml hown hts hN hK hP (c5_makesClock l D kA (sh.1 (p1 - (1 : Int32)).toNatClampNeg) u20 hc_20) [] rfl nw_825 tw_826 tw_74 tw_827 rfl rfl (by decide) ⟨Nat.le_of_ble_eq_true rfl, Nat.le_of_ble_eq_true rfl⟩ rfl hl.1 rfl (Nat.le_of_ble_eq_true rfl) dX3_haveClash_20 ⟨Nat.le_of_ble_eq_true rfl, Nat.le_of_ble_eq_true rfl⟩ ?_
  obtain ⟨k39, hk39, h⟩ := jn_name h
  have j39 : ∀ (v39 : Int32) (ls : Array Slot), k39 v39 = some res → lv_has ls 7 [(0, .ref (a_sh 0)), (1, .int p1), (2, .int p2), (3, .int (sh.1 (p1 - (1 : Int32)).toNatClampNeg)), (4, .int (sh.1 (p2 - (1 : Int32)).toNatClampNeg))] → W p l e rm3_haveClash s m args below meth c s.heap [] 0 0 Q (F0 m 39 ls [.int v39]) := by
    intro v39 ls h hl
    have h := app_of hk39 h
    refine lv_istore (lv' := [(5, .int v39), (0, .ref (a_sh 0)), (1, .int p1), (2, .int p2), (3, .int (sh.1 (p1 - (1 : Int32)).toNatClampNeg)), (4, .int (sh.1 (p2 - (1 : Int32)).toNatClampNeg))]) hx hb dX3_haveClash_39 hl (by decide) rfl (fun ls hl => ?_)
    refine lv_iload_n hx hb dX3_haveClash_41 rfl (lv_at hl 4 rfl) ?_
    refine lv_bipush (v := 8) hx hb dX3_haveClash_42 (by decide) ?_
    obtain ⟨k83, hk83, h⟩ := jn_name h
    have j83 : ∀ (v83 : Int32) (ls : Array Slot), k83 v83 = some res → lv_has ls 7 [(0, .ref (a_sh 0)), (1, .int p1), (2, .int p2), (5, .int v39)] → W p l e rm3_haveClash s m args below meth c s.heap [] 0 0 Q (F0 m 83 ls [.int v83]) := by
      intro v83 ls h hl
      have h := app_of hk83 h
      refine lv_istore (lv' := [(6, .int v83), (0, .ref (a_sh 0)), (1, .int p1), (2, .int p2), (5, .int v39)]) hx hb dX3_haveClash_83 hl (by decide) rfl (fun ls hl => ?_)
      refine lv_iload hx hb dX3_haveClash_85 (lv_at hl 4 rfl) ?_
      obtain ⟨k95, hk95, h⟩ := jn_name h
      have j95 : ∀ (v95 : Unit) (ls : Array Slot), k95 v95 = some res → lv_has ls 7 [(0, .ref (a_sh 0)), (1, .int p1), (2, .int p2)] → W p l e rm3_haveClash s m args below meth c s.heap [] 0 0 Q (F0 m 95 ls []) := by
        intro v95 ls h hl
        have h := app_of hk95 h
        refine lv_aload_n hx hb dX3_haveClash_95 rfl (lv_at hl 0 rfl) ?_
        refine lv_iload_n hx hb dX3_haveClash_96 rfl (lv_at hl 1 rfl) ?_
        refine lv_iconst (v := 0) hx hb dX3_haveClash_97 (by decide) ?_
        obtain ⟨u98, hc_98, h⟩ := bnd_some h
        refine ro_V (n := 2) (As := [.int p1, .int (0 : Int32)]) (rest := []) hx hb hml hown hts hN hK hP (c3_hitsOf l D kA a_sh a_ck p1 (0 : Int32) sh u98 hc_98) [0, 1, 2, 3, 4, 5, 6, 7] rfl 0 3 rfl rfl rfl tw_768 tw_693 tw_694 tw_77 tw_695 rfl rfl (by decide) ⟨Nat.le_of_ble_eq_true rfl, Nat.le_of_ble_eq_true rfl⟩ rfl hl.1 rfl (Nat.le_of_ble_eq_true rfl) dX3_haveClash_98 ⟨Nat.le_of_ble_eq_true rfl, Nat.le_of_ble_eq_true rfl⟩ ?_
        refine lv_aload_n hx hb dX3_haveClash_101 rfl (lv_at hl 0 rfl) ?_
        refine lv_iload_n hx hb dX3_haveClash_102 rfl (lv_at hl 2 rfl) ?_
        refine lv_iconst (v := 0) hx hb dX3_haveClash_103 (by decide) ?_
        obtain ⟨u104, hc_104, h⟩ := bnd_some h
        refine ro_V (n := 2) (As := [.int p2, .int (0 : Int32)]) (rest := [.long u98]) hx hb hml hown hts hN hK hP (c3_hitsOf l D kA a_sh a_ck p2 (0 : Int32) sh u104 hc_104) [0, 1, 2, 3, 4, 5, 6, 7] rfl 0 3 rfl rfl rfl tw_768 tw_693 tw_694 tw_77 tw_695 rfl rfl (by decide) ⟨Nat.le_of_ble_eq_true rfl, Nat.le_of_ble_eq_true rfl⟩ rfl hl.1 rfl (Nat.le_of_ble_eq_true rfl) dX3_haveClash_104 ⟨Nat.le_of_ble_eq_true rfl, Nat.le_of_ble_eq_true rfl⟩ ?_
        refine lv_land hx hb dX3_haveClash_107 ?_
        refine lv_lconst (v := 0) hx hb dX3_haveClash_108 (by decide) ?_
        refine W.lcmp hx hb dX3_haveClash_109 ?_
        refine lv_if_eq (tgt := 117) hx hb dX3_haveClash_110 (by decide) (fun bc => ?_) (fun bc => ?_)
        · have h := ite_t bc h
          refine lv_iconst (v := 0) hx hb dX3_haveClash_117 (by decide) ?_
          obtain rfl := Option.some.inj h
          rw [← hQ]
          exact ro_zreturn hx hb hr hk (by decide) dX3_haveClash_118
        · have h := ite_f bc h
          refine lv_iconst (v := 1) hx hb dX3_haveClash_113 (by decide) ?_
          refine lv_goto (tgt := 118) hx hb dX3_haveClash_114 (by decide) ?_
          obtain rfl := Option.some.inj h
          rw [← hQ]
          exact ro_zreturn hx hb hr hk (by decide) dX3_haveClash_118
      refine lv_if_ne (tgt := 95) hx hb dX3_haveClash_87 (by decide) (fun bc => ?_) (fun bc => ?_)
      · have h := ite_f bc h
        exact j95 _ ls h (lv_sub hl [1, 2, 3] rfl)
      · have h := ite_t bc h
        refine lv_iload hx hb dX3_haveClash_90 (lv_at hl 0 rfl) ?_
        refine lv_if_eq (tgt := 117) hx hb dX3_haveClash_92 (by decide) (fun bc => ?_) (fun bc => ?_)
        · have h := ite_t bc h
          refine lv_iconst (v := 0) hx hb dX3_haveClash_117 (by decide) ?_
          obtain rfl := Option.some.inj h
          rw [← hQ]
          exact ro_zreturn hx hb hr hk (by decide) dX3_haveClash_118
        · have h := ite_f bc h
          exact j95 _ ls h (lv_sub hl [1, 2, 3] rfl)
    obtain ⟨k53, hk53, h⟩ := jn_name h
    have j53 : ∀ (v53 : Unit) (ls : Array Slot), k53 v53 = some res → lv_has ls 7 [(0, .ref (a_sh 0)), (1, .int p1), (2, .int p2), (3, .int (sh.1 (p1 - (1 : Int32)).toNatClampNeg)), (4, .int (sh.1 (p2 - (1 : Int32)).toNatClampNeg)), (5, .int v39)] → W p l e rm3_haveClash s m args below meth c s.heap [] 0 0 Q (F0 m 53 ls []) := by
      intro v53 ls h hl
      have h := app_of hk53 h
      refine lv_iload_n hx hb dX3_haveClash_53 rfl (lv_at hl 3 rfl) ?_
      refine lv_iload hx hb dX3_haveClash_54 (lv_at hl 4 rfl) ?_
      refine lv_icmp_ne (tgt := 82) hx hb dX3_haveClash_56 (by decide) (fun bc => ?_) (fun bc => ?_)
      · have h := ite_f bc h
        refine lv_iconst (v := 0) hx hb dX3_haveClash_82 (by decide) ?_
        exact j83 _ ls h (lv_sub hl [0, 1, 2, 5] rfl)
      · have h := ite_t bc h
        refine lv_aload_n hx hb dX3_haveClash_59 rfl (lv_at hl 0 rfl) ?_
        refine va_get (D := D) (ci := 3) (v := .ref (a_sh 2)) (C := "ConstraintText$Sheet") (T := TX3) (N := 10) hx hb hts ing3 hown hK hP 0 rfl rfl 1 (by decide) (hts _ tw_182) (fun _ h9 => h9) rfl dX3_haveClash_60 ?_
        refine lv_iload_n hx hb dX3_haveClash_63 rfl (lv_at hl 1 rfl) ?_
        refine lv_iconst (v := 1) hx hb dX3_haveClash_64 (by decide) ?_
        refine lv_isub hx hb dX3_haveClash_65 ?_
        obtain ⟨g66, h⟩ := grd_some h
        refine va_iald hx hb hK hP 2 0 rfl rfl (inb_in g66) dX3_haveClash_66 ?_
        refine lv_aload_n hx hb dX3_haveClash_67 rfl (lv_at hl 0 rfl) ?_
        refine va_get (D := D) (ci := 3) (v := .ref (a_sh 2)) (C := "ConstraintText$Sheet") (T := TX3) (N := 10) hx hb hts ing3 hown hK hP 0 rfl rfl 1 (by decide) (hts _ tw_182) (fun _ h9 => h9) rfl dX3_haveClash_68 ?_
        refine lv_iload_n hx hb dX3_haveClash_71 rfl (lv_at hl 2 rfl) ?_
        refine lv_iconst (v := 1) hx hb dX3_haveClash_72 (by decide) ?_
        refine lv_isub hx hb dX3_haveClash_73 ?_
        obtain ⟨g74, h⟩ := grd_some h
        refine va_iald hx hb hK hP 2 0 rfl rfl (inb_in g74) dX3_haveClash_74 ?_
        refine lv_icmp_eq (tgt := 82) hx hb dX3_haveClash_75 (by decide) (fun bc => ?_) (fun bc => ?_)
        · have h := ite_t bc h
          refine lv_iconst (v := 0) hx hb dX3_haveClash_82 (by decide) ?_
          exact j83 _ ls h (lv_sub hl [0, 1, 2, 5] rfl)
        · have h := ite_f bc h
          refine lv_iconst (v := 1) hx hb dX3_haveClash_78 (by decide) ?_
          refine lv_goto (tgt := 83) hx hb dX3_haveClash_79 (by decide) ?_
          exact j83 _ ls h (lv_sub hl [0, 1, 2, 5] rfl)
    refine lv_icmp_eq (tgt := 53) hx hb dX3_haveClash_44 (by decide) (fun bc => ?_) (fun bc => ?_)
    · have h := ite_t bc h
      exact j53 _ ls h (lv_sub hl [1, 2, 3, 4, 5, 0] rfl)
    · have h := ite_f bc h
      refine lv_iload_n hx hb dX3_haveClash_47 rfl (lv_at hl 4 rfl) ?_
      refine lv_bipush (v := 9) hx hb dX3_haveClash_48 (by decide) ?_
      refine lv_icmp_ne (tgt := 82) hx hb dX3_haveClash_50 (by decide) (fun bc => ?_) (fun bc => ?_)
      · have h := ite_f bc h
        refine lv_iconst (v := 0) hx hb dX3_haveClash_82 (by decide) ?_
        exact j83 _ ls h (lv_sub hl [1, 2, 3, 0] rfl)
      · have h := ite_t bc h
        exact j53 _ ls h (lv_sub hl [1, 2, 3, 4, 5, 0] rfl)
  refine lv_if_eq (tgt := 38) hx hb dX3_haveClash_23 (by decide) (fun bc => ?_) (fun bc => ?_)
  · have h := ite_t bc h
    refine lv_iconst (v := 0) hx hb dX3_haveClash_38 (by decide) ?_
    exact j39 _ ls h (lv_sub hl [2, 3, 4, 1, 0] rfl)
  · have h := ite_f bc h
    refine lv_iload hx hb dX3_haveClash_26 (lv_at hl 0 rfl) ?_
    obtain ⟨u28, hc_28, h⟩ := bnd_some h
    refine ro_SN (n := 1) (As := [.int (sh.1 (p2 - (1 : Int32)).toNatClampNeg)]) (rest := []) hx hb hml hown hts hN hK hP (c5_makesClock l D kA (sh.1 (p2 - (1 : Int32)).toNatClampNeg) u28 hc_28) [] rfl nw_825 tw_826 tw_74 tw_827 rfl rfl (by decide) ⟨Nat.le_of_ble_eq_true rfl, Nat.le_of_ble_eq_true rfl⟩ rfl hl.1 rfl (Nat.le_of_ble_eq_true rfl) dX3_haveClash_28 ⟨Nat.le_of_ble_eq_true rfl, Nat.le_of_ble_eq_true rfl⟩ ?_
    refine lv_if_eq (tgt := 38) hx hb dX3_haveClash_31 (by decide) (fun bc => ?_) (fun bc => ?_)
    · have h := ite_t bc h
      refine lv_iconst (v := 0) hx hb dX3_haveClash_38 (by decide) ?_
      exact j39 _ ls h (lv_sub hl [2, 3, 4, 1, 0] rfl)
    · have h := ite_f bc h
      refine lv_iconst (v := 1) hx hb dX3_haveClash_34 (by decide) ?_
      refine lv_goto (tgt := 39) hx hb dX3_haveClash_35 (by decide) ?_
      exact j39 _ ls h (lv_sub hl [2, 3, 4, 1, 0] rfl)
abbrev rm3_strengthOf : Room := { frames := 0, cells := 0, slots := 0, locals := 0 }
set_option maxHeartbeats 4000000 in
set_option maxRecDepth 100000 in
theorem c3_strengthOf (l : Launch) (D : va_G) (kA : Nat → ClassId)  (p1 : Int32) (res : Int32) (h : f3_strengthOf p1 = some res) : Ro l yX3_strengthOf cX3_strengthOf 1 (some .int) rm3_strengthOf D kA [.int p1] [] (.int res) := by
  refine Ro.of (by decide) (Nat.le_of_ble_eq_true rfl) ?_
  intro p e s m args below meth c hF hP hK ls hl
  generalize hQ : roQ below _ args s = Q
  obtain ⟨hx, hb, hml, hown, hr, hk, hts, hN⟩ := hF
  have hl : lv_has ls 1 [(0, .int p1)] := hl
  unfold f3_strengthOf at h
  refine lv_iload_n hx hb dX3_strengthOf_0 rfl (lv_at hl 0 rfl) ?_
  by_cases sw0 : p1 = (4 : Int32)
  · have h := ite_t sw0 h
    refine lv_tableIn (tgt := 32) hx hb dX3_strengthOf_1 (by rw [sw0]; decide) (by rw [sw0]; decide) (by rw [sw0]; rfl) (by decide) ?_
    refine lv_iconst (v := 3) hx hb dX3_strengthOf_32 (by decide) ?_
    obtain rfl := Option.some.inj h
    rw [← hQ]
    exact ro_ireturn hx hb hr hk  dX3_strengthOf_33
  · have h := ite_f sw0 h
    by_cases sw1 : p1 = (5 : Int32)
    · have h := ite_t sw1 h
      refine lv_tableIn (tgt := 36) hx hb dX3_strengthOf_1 (by rw [sw1]; decide) (by rw [sw1]; decide) (by rw [sw1]; rfl) (by decide) ?_
      refine lv_iconst (v := 1) hx hb dX3_strengthOf_36 (by decide) ?_
      obtain rfl := Option.some.inj h
      rw [← hQ]
      exact ro_ireturn hx hb hr hk  dX3_strengthOf_37
    · have h := ite_f sw1 h
      by_cases sw2 : p1 = (6 : Int32)
      · have h := ite_t sw2 h
        refine lv_tableIn (tgt := 34) hx hb dX3_strengthOf_1 (by rw [sw2]; decide) (by rw [sw2]; decide) (by rw [sw2]; rfl) (by decide) ?_
        refine lv_iconst (v := 2) hx hb dX3_strengthOf_34 (by decide) ?_
        obtain rfl := Option.some.inj h
        rw [← hQ]
        exact ro_ireturn hx hb hr hk  dX3_strengthOf_35
      · have h := ite_f sw2 h
        by_cases sw3 : p1 = (7 : Int32)
        · have h := ite_t sw3 h
          refine lv_tableIn (tgt := 34) hx hb dX3_strengthOf_1 (by rw [sw3]; decide) (by rw [sw3]; decide) (by rw [sw3]; rfl) (by decide) ?_
          refine lv_iconst (v := 2) hx hb dX3_strengthOf_34 (by decide) ?_
          obtain rfl := Option.some.inj h
          rw [← hQ]
          exact ro_ireturn hx hb hr hk  dX3_strengthOf_35
        · have h := ite_f sw3 h
          refine lv_tableOut (tgt := 38) hx hb dX3_strengthOf_1 (by have q0 := lv_neT (a := 4) sw0 (by decide); have q1 := lv_neT (a := 5) sw1 (by decide); have q2 := lv_neT (a := 6) sw2 (by decide); have q3 := lv_neT (a := 7) sw3 (by decide); omega) (by decide) ?_
          refine lv_iconst (v := 0) hx hb dX3_strengthOf_38 (by decide) ?_
          obtain rfl := Option.some.inj h
          rw [← hQ]
          exact ro_ireturn hx hb hr hk  dX3_strengthOf_39
abbrev rm3_clashingRow : Room := { frames := 3, cells := 0, slots := 0, locals := 72 }
set_option maxHeartbeats 4000000 in
set_option maxRecDepth 100000 in
theorem c3_clashingRow (l : Launch) (D : va_G) (kA : Nat → ClassId) (a_sh : Nat → Nat) (a_ck : Nat → Nat) (F : Nat) (p1 : Int32) (p2 : Int32) (sh : T3) (res : Int32) (h : f3_clashingRow F p1 p2 sh = some res) : Ro l yX3_clashingRow cX3_clashingRow 6 (some .int) rm3_clashingRow D kA [.ref (a_sh 0), .int p1, .int p2] [(a_sh 0, .inr (3, [.ref (a_sh 1), .ref (a_sh 2), .ref (a_sh 3), .ref (a_sh 4), .ref (a_sh 5), .ref (a_sh 6), .ref (a_sh 7), .ref (a_ck 0), .int sh.2.2.2.2.2.2.2.1, .int sh.2.2.2.2.2.2.2.2])), (a_sh 1, .inl (kA 0, 40, .inl sh.1)), (a_sh 2, .inl (kA 0, 40, .inl sh.2.1)), (a_sh 3, .inl (kA 0, 80, .inl sh.2.2.1)), (a_sh 4, .inl (kA 0, 120, .inl sh.2.2.2.1)), (a_sh 5, .inl (kA 0, 120, .inl sh.2.2.2.2.1)), (a_sh 6, .inl (kA 2, 120, .inr (.inl sh.2.2.2.2.2.1))), (a_sh 7, .inl (kA 1, 1240, .inl sh.2.2.2.2.2.2.1))] (.int res) := by
  refine Ro.of (by decide) (Nat.le_of_ble_eq_true rfl) ?_
  intro p e s m args below meth c hF hP hK ls hl
  generalize hQ : roQ below _ args s = Q
  obtain ⟨hx, hb, hml, hown, hr, hk, hts, hN⟩ := hF
  have hl : lv_has ls 6 [(0, .ref (a_sh 0)), (1, .int p1), (2, .int p2)] := hl
  unfold f3_clashingRow at h
  refine lv_iconst (v := 0) hx hb dX3_clashingRow_0 (by decide) ?_
  refine lv_istore_n (lv' := [(3, .int (0 : Int32)), (0, .ref (a_sh 0)), (1, .int p1), (2, .int p2)]) hx hb dX3_clashingRow_1 rfl hl (by decide) rfl (fun ls hl => ?_)
  refine lv_iconst (v := 1) hx hb dX3_clashingRow_2 (by decide) ?_
  refine lv_istore (lv' := [(4, .int (1 : Int32)), (3, .int (0 : Int32)), (0, .ref (a_sh 0)), (1, .int p1), (2, .int p2)]) hx hb dX3_clashingRow_3 hl (by decide) rfl (fun ls hl => ?_)
  obtain ⟨k5, e5, hk5, hi5, hc5⟩ := bnd_name h
  have x45w : ∀ (x45 : Int32 × Int32) (ls : Array Slot), k5 (.inl x45) = some res → lv_has ls 6 [(2, .int p2), (4, .int x45.1), (5, .int x45.2)] → W p l e rm3_clashingRow s m args below meth c s.heap [] 0 0 Q (F0 m 45 ls []) := by
    intro x45 ls h hl
    have h := app_of hk5 h
    have h := cas_l h
    refine lv_iload_n hx hb dX3_clashingRow_45 rfl (lv_at hl 0 rfl) ?_
    refine lv_if_ne (tgt := 54) hx hb dX3_clashingRow_46 (by decide) (fun bc => ?_) (fun bc => ?_)
    · have h := ite_f bc h
      refine lv_iload hx hb dX3_clashingRow_54 (lv_at hl 2 rfl) ?_
      obtain rfl := Option.some.inj h
      rw [← hQ]
      exact ro_ireturn hx hb hr hk  dX3_clashingRow_56
    · have h := ite_t bc h
      refine lv_iload hx hb dX3_clashingRow_49 (lv_at hl 1 rfl) ?_
      refine lv_goto (tgt := 56) hx hb dX3_clashingRow_51 (by decide) ?_
      obtain rfl := Option.some.inj h
      rw [← hQ]
      exact ro_ireturn hx hb hr hk  dX3_clashingRow_56
  have x72w : ∀ (x72 : Unit) (ls : Array Slot), k5 (.inr x72) = some res → lv_has ls 6 [] → W p l e rm3_clashingRow s m args below meth c s.heap [] 0 0 Q (F0 m 72 ls []) := by
    intro x72 ls h hl
    have h := app_of hk5 h
    have h := cas_r h
    refine lv_iconst (v := -1) hx hb dX3_clashingRow_72 (by decide) ?_
    obtain rfl := Option.some.inj h
    rw [← hQ]
    exact ro_ireturn hx hb hr hk  dX3_clashingRow_73
  have lp5 : ∀ (n5 : Nat) (s5 : Int32 × Int32) (ls : Array Slot), iter (f3_clashingRow_L5 F p1 sh) n5 s5 = some e5 → lv_has ls 6 [(0, .ref (a_sh 0)), (1, .int p1), (2, .int p2), (3, .int s5.1), (4, .int s5.2)] → W p l e rm3_clashingRow s m args below meth c s.heap [] 0 0 Q (F0 m 5 ls []) := by
    intro n5
    induction n5 with
    | zero =>
      intro s5 ls h hl
      exact (iter_zero h).elim
    | succ n5 ih5 =>
      intro s5 ls h hl
      obtain ⟨z5, h, hL5, hR5⟩ := iter_split h
      unfold f3_clashingRow_L5 at h
      refine lv_iload hx hb dX3_clashingRow_5 (lv_at hl 4 rfl) ?_
      refine lv_aload_n hx hb dX3_clashingRow_7 rfl (lv_at hl 0 rfl) ?_
      refine va_get (D := D) (ci := 3) (v := .int sh.2.2.2.2.2.2.2.1) (C := "ConstraintText$Sheet") (T := TX3) (N := 10) hx hb hts ing3 hown hK hP 0 rfl rfl 8 (by decide) (hts _ tw_193) (fun _ h9 => h9) rfl dX3_clashingRow_8 ?_
      refine lv_icmp_gt (tgt := 72) hx hb dX3_clashingRow_11 (by decide) (fun bc => ?_) (fun bc => ?_)
      · have h := ite_t bc h
        obtain rfl := Option.some.inj h
        exact x72w _ ls (eq_some_app (hR5 _ rfl) hc5) (lv_sub hl [] rfl)
      · have h := ite_f bc h
        refine lv_iload hx hb dX3_clashingRow_14 (lv_at hl 4 rfl) ?_
        refine lv_iconst (v := 1) hx hb dX3_clashingRow_16 (by decide) ?_
        refine lv_iadd hx hb dX3_clashingRow_17 ?_
        refine lv_istore (lv' := [(5, .int (s5.2 + (1 : Int32))), (0, .ref (a_sh 0)), (1, .int p1), (2, .int p2), (3, .int s5.1), (4, .int s5.2)]) hx hb dX3_clashingRow_18 hl (by decide) rfl (fun ls hl => ?_)
        obtain ⟨k20, e20, hk20, hi20, hc20⟩ := bnd_name h
        have x45w : ∀ (x45 : Int32) (ls : Array Slot), k20 (.inl x45) = some z5 → lv_has ls 6 [(2, .int p2), (4, .int s5.2), (5, .int x45)] → W p l e rm3_clashingRow s m args below meth c s.heap [] 0 0 Q (F0 m 45 ls []) := by
          intro x45 ls h hl
          have h := app_of hk20 h
          have h := cas_l h
          obtain rfl := Option.some.inj h
          exact x45w _ ls (eq_some_app (hR5 _ rfl) hc5) hl
        have x66w : ∀ (x66 : Int32) (ls : Array Slot), k20 (.inr x66) = some z5 → lv_has ls 6 [(0, .ref (a_sh 0)), (1, .int p1), (2, .int p2), (3, .int x66), (4, .int s5.2)] → W p l e rm3_clashingRow s m args below meth c s.heap [] 0 0 Q (F0 m 66 ls []) := by
          intro x66 ls h hl
          have h := app_of hk20 h
          have h := cas_r h
          refine lv_iinc (v := (s5.2 + (1 : Int32))) (lv' := [(4, .int (s5.2 + (1 : Int32))), (0, .ref (a_sh 0)), (1, .int p1), (2, .int p2), (3, .int x66)]) hx hb dX3_clashingRow_66 hl (k := 4) rfl rfl (by decide) rfl (fun ls hl => ?_)
          refine lv_goto (tgt := 5) hx hb dX3_clashingRow_69 (by decide) ?_
          obtain rfl := Option.some.inj h
          exact ih5 _ ls (hL5 _ rfl) (lv_sub hl [1, 2, 3, 4, 0] rfl)
        have lp20 : ∀ (n20 : Nat) (s20 : Int32 × Int32) (ls : Array Slot), iter (f3_clashingRow_L20 p1 sh s5) n20 s20 = some e20 → lv_has ls 6 [(0, .ref (a_sh 0)), (1, .int p1), (2, .int p2), (3, .int s20.1), (4, .int s5.2), (5, .int s20.2)] → W p l e rm3_clashingRow s m args below meth c s.heap [] 0 0 Q (F0 m 20 ls []) := by
          intro n20
          induction n20 with
          | zero =>
            intro s20 ls h hl
            exact (iter_zero h).elim
          | succ n20 ih20 =>
            intro s20 ls h hl
            obtain ⟨z20, h, hL20, hR20⟩ := iter_split h
            unfold f3_clashingRow_L20 at h
            refine lv_iload hx hb dX3_clashingRow_20 (lv_at hl 5 rfl) ?_
            refine lv_aload_n hx hb dX3_clashingRow_22 rfl (lv_at hl 0 rfl) ?_
            refine va_get (D := D) (ci := 3) (v := .int sh.2.2.2.2.2.2.2.1) (C := "ConstraintText$Sheet") (T := TX3) (N := 10) hx hb hts ing3 hown hK hP 0 rfl rfl 8 (by decide) (hts _ tw_193) (fun _ h9 => h9) rfl dX3_clashingRow_23 ?_
            refine lv_icmp_gt (tgt := 66) hx hb dX3_clashingRow_26 (by decide) (fun bc => ?_) (fun bc => ?_)
            · have h := ite_t bc h
              obtain rfl := Option.some.inj h
              exact x66w _ ls (eq_some_app (hR20 _ rfl) hc20) (lv_sub hl [0, 1, 2, 3, 4] rfl)
            · have h := ite_f bc h
              refine lv_aload_n hx hb dX3_clashingRow_29 rfl (lv_at hl 0 rfl) ?_
              refine lv_iload hx hb dX3_clashingRow_30 (lv_at hl 4 rfl) ?_
              refine lv_iload hx hb dX3_clashingRow_32 (lv_at hl 5 rfl) ?_
              obtain ⟨u34, hc_34, h⟩ := bnd_some h
              refine ro_V (n := 2) (As := [.int s5.2, .int s20.2]) (rest := []) hx hb hml hown hts hN hK hP (c3_haveClash l D kA a_sh a_ck s5.2 s20.2 sh u34 hc_34) [0, 1, 2, 3, 4, 5, 6, 7] rfl 0 3 rfl rfl rfl tw_821 tw_823 tw_35 tw_77 tw_824 rfl rfl (by decide) ⟨Nat.le_of_ble_eq_true rfl, Nat.le_of_ble_eq_true rfl⟩ rfl hl.1 rfl (Nat.le_of_ble_eq_true rfl) dX3_clashingRow_34 ⟨Nat.le_of_ble_eq_true rfl, Nat.le_of_ble_eq_true rfl⟩ ?_
              obtain ⟨k60, hk60, h⟩ := jn_name h
              have j60 : ∀ (v60 : Int32) (ls : Array Slot), k60 v60 = some z20 → lv_has ls 6 [(0, .ref (a_sh 0)), (1, .int p1), (2, .int p2), (3, .int v60), (4, .int s5.2), (5, .int s20.2)] → W p l e rm3_clashingRow s m args below meth c s.heap [] 0 0 Q (F0 m 60 ls []) := by
                intro v60 ls h hl
                have h := app_of hk60 h
                refine lv_iinc (v := (s20.2 + (1 : Int32))) (lv' := [(5, .int (s20.2 + (1 : Int32))), (0, .ref (a_sh 0)), (1, .int p1), (2, .int p2), (3, .int v60), (4, .int s5.2)]) hx hb dX3_clashingRow_60 hl (k := 5) rfl rfl (by decide) rfl (fun ls hl => ?_)
                refine lv_goto (tgt := 20) hx hb dX3_clashingRow_63 (by decide) ?_
                obtain rfl := Option.some.inj h
                exact ih20 _ ls (hL20 _ rfl) (lv_sub hl [1, 2, 3, 4, 5, 0] rfl)
              refine lv_if_eq (tgt := 60) hx hb dX3_clashingRow_37 (by decide) (fun bc => ?_) (fun bc => ?_)
              · have h := ite_t bc h
                exact j60 _ ls h hl
              · have h := ite_f bc h
                refine lv_iload_n hx hb dX3_clashingRow_40 rfl (lv_at hl 3 rfl) ?_
                refine lv_iload_n hx hb dX3_clashingRow_41 rfl (lv_at hl 1 rfl) ?_
                refine lv_icmp_ne (tgt := 57) hx hb dX3_clashingRow_42 (by decide) (fun bc => ?_) (fun bc => ?_)
                · have h := ite_f bc h
                  refine lv_iinc (v := (s20.1 + (1 : Int32))) (lv' := [(3, .int (s20.1 + (1 : Int32))), (0, .ref (a_sh 0)), (1, .int p1), (2, .int p2), (4, .int s5.2), (5, .int s20.2)]) hx hb dX3_clashingRow_57 hl (k := 3) rfl rfl (by decide) rfl (fun ls hl => ?_)
                  exact j60 _ ls h (lv_sub hl [1, 2, 3, 0, 4, 5] rfl)
                · have h := ite_t bc h
                  obtain rfl := Option.some.inj h
                  exact x45w _ ls (eq_some_app (hR20 _ rfl) hc20) (lv_sub hl [2, 4, 5] rfl)
        exact lp20 F (s5.1, (s5.2 + (1 : Int32))) ls hi20 (lv_sub hl [1, 2, 3, 4, 5, 0] rfl)
  exact lp5 F ((0 : Int32), (1 : Int32)) ls hi5 (lv_sub hl [2, 3, 4, 1, 0] rfl)
end
