theorem tw_0 : (Cond.selects "ConstraintText$Reader" ⟨"ConstraintText$Reader", "takeWord", "()V"⟩ ⟨"ConstraintText$Reader", "takeWord", "()V"⟩) ∈ gtb := tc_s 0 (by decide +kernel) rfl
theorem tw_1 : (Cond.selects "ConstraintText$Reader" ⟨"ConstraintText$Reader", "takeRow", "()Z"⟩ ⟨"ConstraintText$Reader", "takeRow", "()Z"⟩) ∈ gtb := tc_s 1 (by decide +kernel) rfl
theorem tw_2 : (Cond.selects "ConstraintText$Reader" ⟨"ConstraintText$Reader", "sortInHand", "()I"⟩ ⟨"ConstraintText$Reader", "sortInHand", "()I"⟩) ∈ gtb := tc_s 2 (by decide +kernel) rfl
theorem tw_3 : (Cond.selects "ConstraintText$Reader" ⟨"ConstraintText$Reader", "isInHand", "(Ljava/lang/String;)Z"⟩ ⟨"ConstraintText$Reader", "isInHand", "(Ljava/lang/String;)Z"⟩) ∈ gtb := tc_s 3 (by decide +kernel) rfl
theorem tw_4 : (Cond.selects "ConstraintText$Reader" ⟨"ConstraintText$Reader", "printWord", "()V"⟩ ⟨"ConstraintText$Reader", "printWord", "()V"⟩) ∈ gtb := tc_s 4 (by decide +kernel) rfl
theorem tw_5 : (Cond.selects "ConstraintText$Reader" ⟨"ConstraintText$Reader", "takeNewClock", "()Z"⟩ ⟨"ConstraintText$Reader", "takeNewClock", "()Z"⟩) ∈ gtb := tc_s 5 (by decide +kernel) rfl
theorem tw_6 : (Cond.selects "ConstraintText$Reader" ⟨"ConstraintText$Reader", "isNameInHand", "()Z"⟩ ⟨"ConstraintText$Reader", "isNameInHand", "()Z"⟩) ∈ gtb := tc_s 6 (by decide +kernel) rfl
theorem tw_7 : (Cond.selects "ConstraintText$Reader" ⟨"ConstraintText$Reader", "clockNamed", "(II)I"⟩ ⟨"ConstraintText$Reader", "clockNamed", "(II)I"⟩) ∈ gtb := tc_s 7 (by decide +kernel) rfl
theorem tw_8 : (Cond.selects "ConstraintText$Reader" ⟨"ConstraintText$Reader", "isSameText", "(III)Z"⟩ ⟨"ConstraintText$Reader", "isSameText", "(III)Z"⟩) ∈ gtb := tc_s 8 (by decide +kernel) rfl
theorem tw_9 : (Cond.selects "ConstraintText$Reader" ⟨"ConstraintText$Reader", "takeTimes", "()Z"⟩ ⟨"ConstraintText$Reader", "takeTimes", "()Z"⟩) ∈ gtb := tc_s 9 (by decide +kernel) rfl
theorem tw_10 : (Cond.selects "ConstraintText$Reader" ⟨"ConstraintText$Reader", "takeWhole", "(II)I"⟩ ⟨"ConstraintText$Reader", "takeWhole", "(II)I"⟩) ∈ gtb := tc_s 10 (by decide +kernel) rfl
theorem tw_11 : (Cond.selects "ConstraintText$Reader" ⟨"ConstraintText$Reader", "wholeInHand", "()I"⟩ ⟨"ConstraintText$Reader", "wholeInHand", "()I"⟩) ∈ gtb := tc_s 11 (by decide +kernel) rfl
theorem tw_12 : (Cond.selects "ConstraintText$Reader" ⟨"ConstraintText$Reader", "takePattern", "(I)Z"⟩ ⟨"ConstraintText$Reader", "takePattern", "(I)Z"⟩) ∈ gtb := tc_s 12 (by decide +kernel) rfl
theorem tw_13 : (Cond.selects "ConstraintText$Reader" ⟨"ConstraintText$Reader", "keepPattern", "(I)Z"⟩ ⟨"ConstraintText$Reader", "keepPattern", "(I)Z"⟩) ∈ gtb := tc_s 13 (by decide +kernel) rfl
theorem tw_14 : (Cond.selects "ConstraintText$Reader" ⟨"ConstraintText$Reader", "isPatternInHand", "()Z"⟩ ⟨"ConstraintText$Reader", "isPatternInHand", "()Z"⟩) ∈ gtb := tc_s 14 (by decide +kernel) rfl
theorem tw_15 : (Cond.selects "ConstraintText$Sheet" ⟨"ConstraintText$Sheet", "patternOf", "(II)I"⟩ ⟨"ConstraintText$Sheet", "patternOf", "(II)I"⟩) ∈ gtb := tc_s 15 (by decide +kernel) rfl
theorem tw_16 : (Cond.selects "ConstraintText$Reader" ⟨"ConstraintText$Reader", "takeLink", "(I)Z"⟩ ⟨"ConstraintText$Reader", "takeLink", "(I)Z"⟩) ∈ gtb := tc_s 16 (by decide +kernel) rfl
theorem tw_17 : (Cond.selects "ConstraintText$Reader" ⟨"ConstraintText$Reader", "takeRatio", "(Z)Z"⟩ ⟨"ConstraintText$Reader", "takeRatio", "(Z)Z"⟩) ∈ gtb := tc_s 17 (by decide +kernel) rfl
theorem tw_18 : (Cond.selects "ConstraintText$Reader" ⟨"ConstraintText$Reader", "takePath", "()Z"⟩ ⟨"ConstraintText$Reader", "takePath", "()Z"⟩) ∈ gtb := tc_s 18 (by decide +kernel) rfl
theorem tw_19 : (Cond.selects "ConstraintText$Reader" ⟨"ConstraintText$Reader", "isAnyInHand", "()Z"⟩ ⟨"ConstraintText$Reader", "isAnyInHand", "()Z"⟩) ∈ gtb := tc_s 19 (by decide +kernel) rfl
theorem tw_20 : (Cond.selects "ConstraintText$Sheet" ⟨"ConstraintText$Sheet", "hasPattern", "(II)Z"⟩ ⟨"ConstraintText$Sheet", "hasPattern", "(II)Z"⟩) ∈ gtb := tc_s 20 (by decide +kernel) rfl
theorem tw_21 : (Cond.selects "ConstraintText$Reader" ⟨"ConstraintText$Reader", "takeValue", "(II)Z"⟩ ⟨"ConstraintText$Reader", "takeValue", "(II)Z"⟩) ∈ gtb := tc_s 21 (by decide +kernel) rfl
theorem tw_22 : (Cond.selects "ConstraintText$Reader" ⟨"ConstraintText$Reader", "takeEnd", "()Z"⟩ ⟨"ConstraintText$Reader", "takeEnd", "()Z"⟩) ∈ gtb := tc_s 22 (by decide +kernel) rfl
theorem tw_23 : (Cond.selects "ConstraintText$Reader" ⟨"ConstraintText$Reader", "bindLinks", "()Z"⟩ ⟨"ConstraintText$Reader", "bindLinks", "()Z"⟩) ∈ gtb := tc_s 23 (by decide +kernel) rfl
theorem tw_24 : (Cond.selects "ConstraintText$Reader" ⟨"ConstraintText$Reader", "hasNoRing", "()Z"⟩ ⟨"ConstraintText$Reader", "hasNoRing", "()Z"⟩) ∈ gtb := tc_s 24 (by decide +kernel) rfl
theorem tw_25 : (Cond.selects "ConstraintText$Reader" ⟨"ConstraintText$Reader", "hasNoneGreat", "()Z"⟩ ⟨"ConstraintText$Reader", "hasNoneGreat", "()Z"⟩) ∈ gtb := tc_s 25 (by decide +kernel) rfl
theorem tw_26 : (Cond.selects "ConstraintText$ClockTable" ⟨"ConstraintText$ClockTable", "settle", "(II)V"⟩ ⟨"ConstraintText$ClockTable", "settle", "(II)V"⟩) ∈ gtb := tc_s 26 (by decide +kernel) rfl
theorem tw_27 : (Cond.selects "ConstraintText$Sheet" ⟨"ConstraintText$Sheet", "fits", "(ILConstraintText$Pins;I)Z"⟩ ⟨"ConstraintText$Sheet", "fits", "(ILConstraintText$Pins;I)Z"⟩) ∈ gtb := tc_s 27 (by decide +kernel) rfl
theorem tw_28 : (Cond.selects "ConstraintText$Sheet" ⟨"ConstraintText$Sheet", "reachedByStars", "(I)I"⟩ ⟨"ConstraintText$Sheet", "reachedByStars", "(I)I"⟩) ∈ gtb := tc_s 28 (by decide +kernel) rfl
theorem tw_29 : (Cond.selects "ConstraintText$Sheet" ⟨"ConstraintText$Sheet", "reachedBy", "(III)I"⟩ ⟨"ConstraintText$Sheet", "reachedBy", "(III)I"⟩) ∈ gtb := tc_s 29 (by decide +kernel) rfl
theorem tw_30 : (Cond.selects "java/lang/Throwable" ⟨"java/lang/Throwable", "fillInStackTrace", "(I)Ljava/lang/Throwable;"⟩ ⟨"java/lang/Throwable", "fillInStackTrace", "(I)Ljava/lang/Throwable;"⟩) ∈ gtb := tc_s 30 (by decide +kernel) rfl
theorem tw_31 : (Cond.selects "ConstraintText$Sheet" ⟨"ConstraintText$Sheet", "admits", "(III)Z"⟩ ⟨"ConstraintText$Sheet", "admits", "(III)Z"⟩) ∈ gtb := tc_s 31 (by decide +kernel) rfl
theorem tw_32 : (Cond.selects "ConstraintText$Sheet" ⟨"ConstraintText$Sheet", "matches", "(III)Z"⟩ ⟨"ConstraintText$Sheet", "matches", "(III)Z"⟩) ∈ gtb := tc_s 32 (by decide +kernel) rfl
theorem tw_33 : (Cond.selects "ConstraintText$Sheet" ⟨"ConstraintText$Sheet", "weightOf", "(I)I"⟩ ⟨"ConstraintText$Sheet", "weightOf", "(I)I"⟩) ∈ gtb := tc_s 33 (by decide +kernel) rfl
theorem tw_34 : (Cond.selects "ConstraintText$Sheet" ⟨"ConstraintText$Sheet", "isIdle", "(I)Z"⟩ ⟨"ConstraintText$Sheet", "isIdle", "(I)Z"⟩) ∈ gtb := tc_s 34 (by decide +kernel) rfl
theorem tw_35 : (Cond.selects "ConstraintText$Sheet" ⟨"ConstraintText$Sheet", "haveClash", "(II)Z"⟩ ⟨"ConstraintText$Sheet", "haveClash", "(II)Z"⟩) ∈ gtb := tc_s 35 (by decide +kernel) rfl
theorem tw_36 : (Cond.selects "ConstraintTextModel" ⟨"ConstraintTextModel", "next", "()V"⟩ ⟨"ConstraintTextModel", "next", "()V"⟩) ∈ gtb := tc_s 36 (by decide +kernel) rfl
theorem tw_37 : (Cond.selects "ConstraintTextModel" ⟨"ConstraintTextModel", "readRow", "()V"⟩ ⟨"ConstraintTextModel", "readRow", "()V"⟩) ∈ gtb := tc_s 37 (by decide +kernel) rfl
theorem tw_38 : (Cond.selects "ConstraintTextModel" ⟨"ConstraintTextModel", "wordName", "()J"⟩ ⟨"ConstraintTextModel", "wordName", "()J"⟩) ∈ gtb := tc_s 38 (by decide +kernel) rfl
theorem tw_39 : (Cond.selects "ConstraintTextModel" ⟨"ConstraintTextModel", "sortOf", "(J)I"⟩ ⟨"ConstraintTextModel", "sortOf", "(J)I"⟩) ∈ gtb := tc_s 39 (by decide +kernel) rfl
theorem tw_40 : (Cond.selects "ConstraintTextModel" ⟨"ConstraintTextModel", "take", "(Z)V"⟩ ⟨"ConstraintTextModel", "take", "(Z)V"⟩) ∈ gtb := tc_s 40 (by decide +kernel) rfl
theorem tw_41 : (Cond.selects "ConstraintTextModel" ⟨"ConstraintTextModel", "readClock", "(I)V"⟩ ⟨"ConstraintTextModel", "readClock", "(I)V"⟩) ∈ gtb := tc_s 41 (by decide +kernel) rfl
theorem tw_42 : (Cond.selects "ConstraintTextModel" ⟨"ConstraintTextModel", "takeNew", "(I)V"⟩ ⟨"ConstraintTextModel", "takeNew", "(I)V"⟩) ∈ gtb := tc_s 42 (by decide +kernel) rfl
theorem tw_43 : (Cond.selects "ConstraintTextModel" ⟨"ConstraintTextModel", "clockOf", "(J)I"⟩ ⟨"ConstraintTextModel", "clockOf", "(J)I"⟩) ∈ gtb := tc_s 43 (by decide +kernel) rfl
theorem tw_44 : (Cond.selects "ConstraintTextModel" ⟨"ConstraintTextModel", "takeWhole", "(II)I"⟩ ⟨"ConstraintTextModel", "takeWhole", "(II)I"⟩) ∈ gtb := tc_s 44 (by decide +kernel) rfl
theorem tw_45 : (Cond.selects "ConstraintTextModel" ⟨"ConstraintTextModel", "whole", "()I"⟩ ⟨"ConstraintTextModel", "whole", "()I"⟩) ∈ gtb := tc_s 45 (by decide +kernel) rfl
theorem tw_46 : (Cond.selects "ConstraintTextModel" ⟨"ConstraintTextModel", "takePattern", "(IIZ)V"⟩ ⟨"ConstraintTextModel", "takePattern", "(IIZ)V"⟩) ∈ gtb := tc_s 46 (by decide +kernel) rfl
theorem tw_47 : (Cond.selects "ConstraintTextModel" ⟨"ConstraintTextModel", "isPattern", "()Z"⟩ ⟨"ConstraintTextModel", "isPattern", "()Z"⟩) ∈ gtb := tc_s 47 (by decide +kernel) rfl
theorem tw_48 : (Cond.selects "ConstraintTextModel" ⟨"ConstraintTextModel", "readDerived", "(I)V"⟩ ⟨"ConstraintTextModel", "readDerived", "(I)V"⟩) ∈ gtb := tc_s 48 (by decide +kernel) rfl
theorem tw_49 : (Cond.selects "ConstraintTextModel" ⟨"ConstraintTextModel", "takeOld", "(IZ)V"⟩ ⟨"ConstraintTextModel", "takeOld", "(IZ)V"⟩) ∈ gtb := tc_s 49 (by decide +kernel) rfl
theorem tw_50 : (Cond.selects "ConstraintTextModel" ⟨"ConstraintTextModel", "readException", "(I)V"⟩ ⟨"ConstraintTextModel", "readException", "(I)V"⟩) ∈ gtb := tc_s 50 (by decide +kernel) rfl
theorem tw_51 : (Cond.selects "ConstraintTextModel" ⟨"ConstraintTextModel", "takeEnd", "()V"⟩ ⟨"ConstraintTextModel", "takeEnd", "()V"⟩) ∈ gtb := tc_s 51 (by decide +kernel) rfl
theorem tw_52 : (Cond.selects "ConstraintTextModel" ⟨"ConstraintTextModel", "unknown", "()I"⟩ ⟨"ConstraintTextModel", "unknown", "()I"⟩) ∈ gtb := tc_s 52 (by decide +kernel) rfl
theorem tw_53 : (Cond.selects "ConstraintTextModel" ⟨"ConstraintTextModel", "findFrom", "()V"⟩ ⟨"ConstraintTextModel", "findFrom", "()V"⟩) ∈ gtb := tc_s 53 (by decide +kernel) rfl
theorem tw_54 : (Cond.selects "ConstraintTextModel" ⟨"ConstraintTextModel", "ring", "()I"⟩ ⟨"ConstraintTextModel", "ring", "()I"⟩) ∈ gtb := tc_s 54 (by decide +kernel) rfl
theorem tw_55 : (Cond.selects "ConstraintTextModel" ⟨"ConstraintTextModel", "greatOne", "()I"⟩ ⟨"ConstraintTextModel", "greatOne", "()I"⟩) ∈ gtb := tc_s 55 (by decide +kernel) rfl
theorem tw_56 : (Cond.selects "ConstraintTextModel" ⟨"ConstraintTextModel", "depth", "(I)I"⟩ ⟨"ConstraintTextModel", "depth", "(I)I"⟩) ∈ gtb := tc_s 56 (by decide +kernel) rfl
theorem tw_57 : (Cond.selects "ConstraintTextModel" ⟨"ConstraintTextModel", "reckon", "(I)V"⟩ ⟨"ConstraintTextModel", "reckon", "(I)V"⟩) ∈ gtb := tc_s 57 (by decide +kernel) rfl
theorem tw_58 : (Cond.selects "ConstraintTextModel" ⟨"ConstraintTextModel", "adopt", "()V"⟩ ⟨"ConstraintTextModel", "adopt", "()V"⟩) ∈ gtb := tc_s 58 (by decide +kernel) rfl
theorem tw_59 : (Cond.selects "ConstraintTextModel" ⟨"ConstraintTextModel", "isClock", "(I)Z"⟩ ⟨"ConstraintTextModel", "isClock", "(I)Z"⟩) ∈ gtb := tc_s 59 (by decide +kernel) rfl
theorem tw_60 : (Cond.selects "ConstraintTextModel" ⟨"ConstraintTextModel", "matched", "(II)I"⟩ ⟨"ConstraintTextModel", "matched", "(II)I"⟩) ∈ gtb := tc_s 60 (by decide +kernel) rfl
theorem tw_61 : (Cond.selects "ConstraintTextModel" ⟨"ConstraintTextModel", "matches", "(III)Z"⟩ ⟨"ConstraintTextModel", "matches", "(III)Z"⟩) ∈ gtb := tc_s 61 (by decide +kernel) rfl
theorem tw_62 : (Cond.selects "ConstraintTextModel" ⟨"ConstraintTextModel", "areApart", "(II)Z"⟩ ⟨"ConstraintTextModel", "areApart", "(II)Z"⟩) ∈ gtb := tc_s 62 (by decide +kernel) rfl
theorem tw_63 : (Cond.selects "ConstraintTextModel" ⟨"ConstraintTextModel", "fits", "(III)Z"⟩ ⟨"ConstraintTextModel", "fits", "(III)Z"⟩) ∈ gtb := tc_s 63 (by decide +kernel) rfl
theorem tw_64 : (Cond.selects "ConstraintTextModel" ⟨"ConstraintTextModel", "strength", "(I)I"⟩ ⟨"ConstraintTextModel", "strength", "(I)I"⟩) ∈ gtb := tc_s 64 (by decide +kernel) rfl
theorem tw_65 : (Cond.selects "ConstraintTextModel" ⟨"ConstraintTextModel", "isUnmatched", "(I)Z"⟩ ⟨"ConstraintTextModel", "isUnmatched", "(I)Z"⟩) ∈ gtb := tc_s 65 (by decide +kernel) rfl
theorem tw_66 : (Cond.selects "ConstraintTextModel" ⟨"ConstraintTextModel", "areClashing", "(II)Z"⟩ ⟨"ConstraintTextModel", "areClashing", "(II)Z"⟩) ∈ gtb := tc_s 66 (by decide +kernel) rfl
theorem tw_67 : (Cond.selects "ConstraintTextModel" ⟨"ConstraintTextModel", "printAll", "(I)V"⟩ ⟨"ConstraintTextModel", "printAll", "(I)V"⟩) ∈ gtb := tc_s 67 (by decide +kernel) rfl
theorem tw_68 : (Cond.selects "ConstraintTextModel" ⟨"ConstraintTextModel", "print", "(I)V"⟩ ⟨"ConstraintTextModel", "print", "(I)V"⟩) ∈ gtb := tc_s 68 (by decide +kernel) rfl
theorem tw_69 : (Cond.selects "ConstraintTextModel" ⟨"ConstraintTextModel", "putWord", "(J)V"⟩ ⟨"ConstraintTextModel", "putWord", "(J)V"⟩) ∈ gtb := tc_s 69 (by decide +kernel) rfl
theorem tw_70 : (Cond.selects "ConstraintTextModel" ⟨"ConstraintTextModel", "put", "(I)V"⟩ ⟨"ConstraintTextModel", "put", "(I)V"⟩) ∈ gtb := tc_s 70 (by decide +kernel) rfl
theorem tw_71 : (Cond.selects "ConstraintTextModel" ⟨"ConstraintTextModel", "putWhole", "(I)V"⟩ ⟨"ConstraintTextModel", "putWhole", "(I)V"⟩) ∈ gtb := tc_s 71 (by decide +kernel) rfl
theorem tw_72 : (Cond.selects "ConstraintTextModel" ⟨"ConstraintTextModel", "putPattern", "(II)V"⟩ ⟨"ConstraintTextModel", "putPattern", "(II)V"⟩) ∈ gtb := tc_s 72 (by decide +kernel) rfl
theorem tw_73 : (Jvm.Cond.initialized "ConstraintTextLaw") ∈ gtb := tc_1 0 (by decide +kernel) rfl
theorem tw_74 : (Jvm.Cond.initialized "ConstraintText") ∈ gtb := tc_1 1 (by decide +kernel) rfl
theorem tw_75 : (Jvm.Cond.initialized "ConstraintText$Reader") ∈ gtb := tc_1 2 (by decide +kernel) rfl
theorem tw_76 : (Jvm.Cond.initialized "ConstraintText$Tape") ∈ gtb := tc_1 3 (by decide +kernel) rfl
theorem tw_77 : (Jvm.Cond.initialized "ConstraintText$Sheet") ∈ gtb := tc_1 4 (by decide +kernel) rfl
theorem tw_78 : (Jvm.Cond.initialized "ConstraintText$ClockTable") ∈ gtb := tc_1 5 (by decide +kernel) rfl
theorem tw_79 : (Jvm.Cond.initialized "ConstraintText$Pins") ∈ gtb := tc_1 6 (by decide +kernel) rfl
theorem tw_80 : (Jvm.Cond.initialized "ConstraintTextModel") ∈ gtb := tc_1 7 (by decide +kernel) rfl
theorem tw_81 : (Jvm.Cond.initialized "java/lang/Throwable") ∈ gtb := tc_1 8 (by decide +kernel) rfl
theorem tw_82 : (Jvm.Cond.initialized "java/lang/Exception") ∈ gtb := tc_1 9 (by decide +kernel) rfl
theorem tw_83 : (Jvm.Cond.initialized "java/lang/RuntimeException") ∈ gtb := tc_1 10 (by decide +kernel) rfl
theorem tw_84 : (Jvm.Cond.initialized "java/lang/IndexOutOfBoundsException") ∈ gtb := tc_1 11 (by decide +kernel) rfl
theorem tw_85 : (Jvm.Cond.initialized "java/util/Arrays") ∈ gtb := tc_1 12 (by decide +kernel) rfl
theorem tw_86 : (Jvm.Cond.initialized "java/lang/String") ∈ gtb := tc_1 13 (by decide +kernel) rfl
theorem tw_87 : (Jvm.Cond.initialized "java/lang/StringLatin1") ∈ gtb := tc_1 14 (by decide +kernel) rfl
theorem tw_88 : (Jvm.Cond.initialized "jdk/internal/util/Preconditions") ∈ gtb := tc_1 15 (by decide +kernel) rfl
theorem tw_89 : (Jvm.Cond.initialized "java/lang/StringUTF16") ∈ gtb := tc_1 16 (by decide +kernel) rfl
theorem tw_90 : (Jvm.Cond.initialized "java/lang/Long") ∈ gtb := tc_1 17 (by decide +kernel) rfl
theorem tw_91 : (Jvm.Cond.initialized "java/lang/Math") ∈ gtb := tc_1 18 (by decide +kernel) rfl
theorem tw_92 : (Jvm.Cond.classLink "ConstraintTextLaw" (8 : Nat) "ConstraintText") ∈ gtb := tc_1 19 (by decide +kernel) rfl
theorem tw_93 : (Jvm.Cond.instantiable "ConstraintText" (4 : Nat)) ∈ gtb := tc_1 20 (by decide +kernel) rfl
theorem tw_94 : (Jvm.Cond.methodLink "ConstraintTextLaw" (49 : Nat) ({ cls := "ConstraintText", name := "<init>", desc := "()V" } : Jvm.MethodName)) ∈ gtb := tc_1 21 (by decide +kernel) rfl
theorem tw_95 : (Jvm.Cond.instanceMethod ({ cls := "ConstraintText", name := "<init>", desc := "()V" } : Jvm.MethodName)) ∈ gtb := tc_1 22 (by decide +kernel) rfl
theorem tw_96 : (Jvm.Cond.code ({ cls := "ConstraintText", name := "<init>", desc := "()V" } : Jvm.MethodName) prog_1_method_1_code (1 : Nat) (Option.none : Option Jvm.ClassFile.FieldType)) ∈ gtb := tc_1 23 (by decide +kernel) rfl
theorem tw_97 : (Jvm.Cond.methodLink "ConstraintText" (3 : Nat) ({ cls := "java/lang/Object", name := "<init>", desc := "()V" } : Jvm.MethodName)) ∈ gtb := tc_1 24 (by decide +kernel) rfl
theorem tw_98 : (Jvm.Cond.instanceMethod ({ cls := "java/lang/Object", name := "<init>", desc := "()V" } : Jvm.MethodName)) ∈ gtb := tc_1 25 (by decide +kernel) rfl
theorem tw_99 : (Jvm.Cond.code ({ cls := "java/lang/Object", name := "<init>", desc := "()V" } : Jvm.MethodName) object_method_1_code (1 : Nat) (Option.none : Option Jvm.ClassFile.FieldType)) ∈ gtb := tc_1 26 (by decide +kernel) rfl
theorem tw_100 : (Jvm.Cond.classLink "ConstraintText" (9 : Nat) "ConstraintText$Reader") ∈ gtb := tc_1 27 (by decide +kernel) rfl
theorem tw_101 : (Jvm.Cond.instantiable "ConstraintText$Reader" (8 : Nat)) ∈ gtb := tc_1 28 (by decide +kernel) rfl
theorem tw_103 : (Jvm.Cond.instanceMethod ({ cls := "ConstraintText$Reader", name := "<init>", desc := "()V" } : Jvm.MethodName)) ∈ gtb := tc_1 30 (by decide +kernel) rfl
theorem tw_104 : (Jvm.Cond.code ({ cls := "ConstraintText$Reader", name := "<init>", desc := "()V" } : Jvm.MethodName) prog_4_method_1_code (1 : Nat) (Option.none : Option Jvm.ClassFile.FieldType)) ∈ gtb := tc_1 31 (by decide +kernel) rfl
theorem tw_105 : (Jvm.Cond.methodLink "ConstraintText$Reader" (3 : Nat) ({ cls := "java/lang/Object", name := "<init>", desc := "()V" } : Jvm.MethodName)) ∈ gtb := tc_1 32 (by decide +kernel) rfl
theorem tw_106 : (Jvm.Cond.classLink "ConstraintText$Reader" (9 : Nat) "ConstraintText$Tape") ∈ gtb := tc_1 33 (by decide +kernel) rfl
theorem tw_107 : (Jvm.Cond.instantiable "ConstraintText$Tape" (2 : Nat)) ∈ gtb := tc_1 34 (by decide +kernel) rfl
theorem tw_109 : (Jvm.Cond.instanceMethod ({ cls := "ConstraintText$Tape", name := "<init>", desc := "()V" } : Jvm.MethodName)) ∈ gtb := tc_1 36 (by decide +kernel) rfl
theorem tw_110 : (Jvm.Cond.code ({ cls := "ConstraintText$Tape", name := "<init>", desc := "()V" } : Jvm.MethodName) prog_6_method_1_code (1 : Nat) (Option.none : Option Jvm.ClassFile.FieldType)) ∈ gtb := tc_1 37 (by decide +kernel) rfl
theorem tw_111 : (Jvm.Cond.methodLink "ConstraintText$Tape" (3 : Nat) ({ cls := "java/lang/Object", name := "<init>", desc := "()V" } : Jvm.MethodName)) ∈ gtb := tc_1 38 (by decide +kernel) rfl
theorem tw_112 : (Jvm.Cond.fieldLink "ConstraintText$Tape" (9 : Nat) "ConstraintText$Tape" "units" "[C") ∈ gtb := tc_1 39 (by decide +kernel) rfl
theorem tw_113 : (Jvm.Cond.fieldLink "ConstraintText$Tape" (15 : Nat) "ConstraintText$Tape" "length" "I") ∈ gtb := tc_1 40 (by decide +kernel) rfl
theorem tw_116 : (Jvm.Cond.laysFinal "ConstraintText$Tape" "ConstraintText$Tape" "units" "[C") ∈ gtb := tc_1 43 (by decide +kernel) rfl
theorem tw_118 : (Jvm.Cond.lays "ConstraintText$Tape" "ConstraintText$Tape" "length" "I") ∈ gtb := tc_1 45 (by decide +kernel) rfl
theorem tw_120 : (Jvm.Cond.superclass "ConstraintText$Tape" "java/lang/Object") ∈ gtb := tc_1 47 (by decide +kernel) rfl
theorem tw_121 : (Jvm.Cond.arrayClass Jvm.ClassFile.FieldType.char) ∈ gtb := tc_1 48 (by decide +kernel) rfl
theorem tw_122 : (Jvm.Cond.classLink "ConstraintText$Reader" (31 : Nat) "ConstraintText$Sheet") ∈ gtb := tc_1 49 (by decide +kernel) rfl
theorem tw_123 : (Jvm.Cond.instantiable "ConstraintText$Sheet" (10 : Nat)) ∈ gtb := tc_1 50 (by decide +kernel) rfl
theorem tw_125 : (Jvm.Cond.instanceMethod ({ cls := "ConstraintText$Sheet", name := "<init>", desc := "()V" } : Jvm.MethodName)) ∈ gtb := tc_1 52 (by decide +kernel) rfl
theorem tw_126 : (Jvm.Cond.code ({ cls := "ConstraintText$Sheet", name := "<init>", desc := "()V" } : Jvm.MethodName) prog_5_method_1_code (1 : Nat) (Option.none : Option Jvm.ClassFile.FieldType)) ∈ gtb := tc_1 53 (by decide +kernel) rfl
theorem tw_127 : (Jvm.Cond.methodLink "ConstraintText$Sheet" (3 : Nat) ({ cls := "java/lang/Object", name := "<init>", desc := "()V" } : Jvm.MethodName)) ∈ gtb := tc_1 54 (by decide +kernel) rfl
theorem tw_128 : (Jvm.Cond.classLink "ConstraintText$Sheet" (35 : Nat) "ConstraintText$ClockTable") ∈ gtb := tc_1 55 (by decide +kernel) rfl
theorem tw_129 : (Jvm.Cond.instantiable "ConstraintText$ClockTable" (12 : Nat)) ∈ gtb := tc_1 56 (by decide +kernel) rfl
theorem tw_131 : (Jvm.Cond.instanceMethod ({ cls := "ConstraintText$ClockTable", name := "<init>", desc := "()V" } : Jvm.MethodName)) ∈ gtb := tc_1 58 (by decide +kernel) rfl
theorem tw_132 : (Jvm.Cond.code ({ cls := "ConstraintText$ClockTable", name := "<init>", desc := "()V" } : Jvm.MethodName) prog_2_method_1_code (1 : Nat) (Option.none : Option Jvm.ClassFile.FieldType)) ∈ gtb := tc_1 59 (by decide +kernel) rfl
theorem tw_133 : (Jvm.Cond.methodLink "ConstraintText$ClockTable" (3 : Nat) ({ cls := "java/lang/Object", name := "<init>", desc := "()V" } : Jvm.MethodName)) ∈ gtb := tc_1 60 (by decide +kernel) rfl
theorem tw_134 : (Jvm.Cond.fieldLink "ConstraintText$ClockTable" (9 : Nat) "ConstraintText$ClockTable" "rows" "[I") ∈ gtb := tc_1 61 (by decide +kernel) rfl
theorem tw_137 : (Jvm.Cond.fieldLink "ConstraintText$ClockTable" (15 : Nat) "ConstraintText$ClockTable" "sources" "[I") ∈ gtb := tc_1 64 (by decide +kernel) rfl
theorem tw_139 : (Jvm.Cond.fieldLink "ConstraintText$ClockTable" (18 : Nat) "ConstraintText$ClockTable" "turned" "[Z") ∈ gtb := tc_1 66 (by decide +kernel) rfl
theorem tw_140 : (Jvm.Cond.fieldLink "ConstraintText$ClockTable" (22 : Nat) "ConstraintText$ClockTable" "timesBy" "[I") ∈ gtb := tc_1 67 (by decide +kernel) rfl
theorem tw_141 : (Jvm.Cond.fieldLink "ConstraintText$ClockTable" (25 : Nat) "ConstraintText$ClockTable" "dividedBy" "[I") ∈ gtb := tc_1 68 (by decide +kernel) rfl
theorem tw_142 : (Jvm.Cond.fieldLink "ConstraintText$ClockTable" (28 : Nat) "ConstraintText$ClockTable" "periods" "[J") ∈ gtb := tc_1 69 (by decide +kernel) rfl
theorem tw_143 : (Jvm.Cond.fieldLink "ConstraintText$ClockTable" (32 : Nat) "ConstraintText$ClockTable" "rises" "[J") ∈ gtb := tc_1 70 (by decide +kernel) rfl
theorem tw_144 : (Jvm.Cond.fieldLink "ConstraintText$ClockTable" (35 : Nat) "ConstraintText$ClockTable" "falls" "[J") ∈ gtb := tc_1 71 (by decide +kernel) rfl
theorem tw_145 : (Jvm.Cond.fieldLink "ConstraintText$ClockTable" (38 : Nat) "ConstraintText$ClockTable" "lowers" "[J") ∈ gtb := tc_1 72 (by decide +kernel) rfl
theorem tw_146 : (Jvm.Cond.fieldLink "ConstraintText$ClockTable" (41 : Nat) "ConstraintText$ClockTable" "settled" "[Z") ∈ gtb := tc_1 73 (by decide +kernel) rfl
theorem tw_147 : (Jvm.Cond.fieldLink "ConstraintText$ClockTable" (44 : Nat) "ConstraintText$ClockTable" "great" "[Z") ∈ gtb := tc_1 74 (by decide +kernel) rfl
theorem tw_149 : (Jvm.Cond.fieldLink "ConstraintText$ClockTable" (47 : Nat) "ConstraintText$ClockTable" "size" "I") ∈ gtb := tc_1 76 (by decide +kernel) rfl
theorem tw_152 : (Jvm.Cond.laysFinal "ConstraintText$ClockTable" "ConstraintText$ClockTable" "rows" "[I") ∈ gtb := tc_1 79 (by decide +kernel) rfl
theorem tw_154 : (Jvm.Cond.laysFinal "ConstraintText$ClockTable" "ConstraintText$ClockTable" "sources" "[I") ∈ gtb := tc_1 81 (by decide +kernel) rfl
theorem tw_156 : (Jvm.Cond.laysFinal "ConstraintText$ClockTable" "ConstraintText$ClockTable" "turned" "[Z") ∈ gtb := tc_1 83 (by decide +kernel) rfl
theorem tw_158 : (Jvm.Cond.laysFinal "ConstraintText$ClockTable" "ConstraintText$ClockTable" "timesBy" "[I") ∈ gtb := tc_1 85 (by decide +kernel) rfl
theorem tw_160 : (Jvm.Cond.laysFinal "ConstraintText$ClockTable" "ConstraintText$ClockTable" "dividedBy" "[I") ∈ gtb := tc_1 87 (by decide +kernel) rfl
theorem tw_162 : (Jvm.Cond.laysFinal "ConstraintText$ClockTable" "ConstraintText$ClockTable" "periods" "[J") ∈ gtb := tc_1 89 (by decide +kernel) rfl
theorem tw_164 : (Jvm.Cond.laysFinal "ConstraintText$ClockTable" "ConstraintText$ClockTable" "rises" "[J") ∈ gtb := tc_1 91 (by decide +kernel) rfl
theorem tw_166 : (Jvm.Cond.laysFinal "ConstraintText$ClockTable" "ConstraintText$ClockTable" "falls" "[J") ∈ gtb := tc_1 93 (by decide +kernel) rfl
theorem tw_168 : (Jvm.Cond.laysFinal "ConstraintText$ClockTable" "ConstraintText$ClockTable" "lowers" "[J") ∈ gtb := tc_1 95 (by decide +kernel) rfl
theorem tw_170 : (Jvm.Cond.laysFinal "ConstraintText$ClockTable" "ConstraintText$ClockTable" "settled" "[Z") ∈ gtb := tc_1 97 (by decide +kernel) rfl
theorem tw_172 : (Jvm.Cond.laysFinal "ConstraintText$ClockTable" "ConstraintText$ClockTable" "great" "[Z") ∈ gtb := tc_1 99 (by decide +kernel) rfl
theorem tw_174 : (Jvm.Cond.lays "ConstraintText$ClockTable" "ConstraintText$ClockTable" "size" "I") ∈ gtb := tc_1 101 (by decide +kernel) rfl
theorem tw_176 : (Jvm.Cond.superclass "ConstraintText$ClockTable" "java/lang/Object") ∈ gtb := tc_1 103 (by decide +kernel) rfl
theorem tw_177 : (Jvm.Cond.arrayClass Jvm.ClassFile.FieldType.int) ∈ gtb := tc_1 104 (by decide +kernel) rfl
theorem tw_178 : (Jvm.Cond.arrayClass Jvm.ClassFile.FieldType.long) ∈ gtb := tc_1 105 (by decide +kernel) rfl
theorem tw_179 : (Jvm.Cond.arrayClass Jvm.ClassFile.FieldType.boolean) ∈ gtb := tc_1 106 (by decide +kernel) rfl
theorem tw_180 : (Jvm.Cond.fieldLink "ConstraintText$Sheet" (9 : Nat) "ConstraintText$Sheet" "sorts" "[I") ∈ gtb := tc_1 107 (by decide +kernel) rfl
theorem tw_182 : (Jvm.Cond.fieldLink "ConstraintText$Sheet" (15 : Nat) "ConstraintText$Sheet" "values" "[I") ∈ gtb := tc_1 109 (by decide +kernel) rfl
theorem tw_184 : (Jvm.Cond.fieldLink "ConstraintText$Sheet" (18 : Nat) "ConstraintText$Sheet" "links" "[I") ∈ gtb := tc_1 111 (by decide +kernel) rfl
theorem tw_186 : (Jvm.Cond.fieldLink "ConstraintText$Sheet" (21 : Nat) "ConstraintText$Sheet" "patternStarts" "[I") ∈ gtb := tc_1 113 (by decide +kernel) rfl
theorem tw_187 : (Jvm.Cond.fieldLink "ConstraintText$Sheet" (24 : Nat) "ConstraintText$Sheet" "patternLengths" "[I") ∈ gtb := tc_1 114 (by decide +kernel) rfl
theorem tw_188 : (Jvm.Cond.fieldLink "ConstraintText$Sheet" (27 : Nat) "ConstraintText$Sheet" "hits" "[J") ∈ gtb := tc_1 115 (by decide +kernel) rfl
theorem tw_189 : (Jvm.Cond.fieldLink "ConstraintText$Sheet" (31 : Nat) "ConstraintText$Sheet" "printed" "[C") ∈ gtb := tc_1 116 (by decide +kernel) rfl
theorem tw_190 : (Jvm.Cond.fieldLink "ConstraintText$Sheet" (38 : Nat) "ConstraintText$Sheet" "clocks" "LConstraintText$ClockTable;") ∈ gtb := tc_1 117 (by decide +kernel) rfl
theorem tw_193 : (Jvm.Cond.fieldLink "ConstraintText$Sheet" (42 : Nat) "ConstraintText$Sheet" "rowCount" "I") ∈ gtb := tc_1 120 (by decide +kernel) rfl
theorem tw_196 : (Jvm.Cond.fieldLink "ConstraintText$Sheet" (46 : Nat) "ConstraintText$Sheet" "printedLength" "I") ∈ gtb := tc_1 123 (by decide +kernel) rfl
theorem tw_198 : (Jvm.Cond.laysFinal "ConstraintText$Sheet" "ConstraintText$Sheet" "sorts" "[I") ∈ gtb := tc_1 125 (by decide +kernel) rfl
theorem tw_200 : (Jvm.Cond.laysFinal "ConstraintText$Sheet" "ConstraintText$Sheet" "values" "[I") ∈ gtb := tc_1 127 (by decide +kernel) rfl
theorem tw_202 : (Jvm.Cond.laysFinal "ConstraintText$Sheet" "ConstraintText$Sheet" "links" "[I") ∈ gtb := tc_1 129 (by decide +kernel) rfl
theorem tw_204 : (Jvm.Cond.laysFinal "ConstraintText$Sheet" "ConstraintText$Sheet" "patternStarts" "[I") ∈ gtb := tc_1 131 (by decide +kernel) rfl
theorem tw_206 : (Jvm.Cond.laysFinal "ConstraintText$Sheet" "ConstraintText$Sheet" "patternLengths" "[I") ∈ gtb := tc_1 133 (by decide +kernel) rfl
theorem tw_208 : (Jvm.Cond.laysFinal "ConstraintText$Sheet" "ConstraintText$Sheet" "hits" "[J") ∈ gtb := tc_1 135 (by decide +kernel) rfl
theorem tw_210 : (Jvm.Cond.laysFinal "ConstraintText$Sheet" "ConstraintText$Sheet" "printed" "[C") ∈ gtb := tc_1 137 (by decide +kernel) rfl
theorem tw_212 : (Jvm.Cond.laysFinal "ConstraintText$Sheet" "ConstraintText$Sheet" "clocks" "LConstraintText$ClockTable;") ∈ gtb := tc_1 139 (by decide +kernel) rfl
theorem tw_214 : (Jvm.Cond.lays "ConstraintText$Sheet" "ConstraintText$Sheet" "rowCount" "I") ∈ gtb := tc_1 141 (by decide +kernel) rfl
theorem tw_216 : (Jvm.Cond.lays "ConstraintText$Sheet" "ConstraintText$Sheet" "printedLength" "I") ∈ gtb := tc_1 143 (by decide +kernel) rfl
theorem tw_218 : (Jvm.Cond.superclass "ConstraintText$Sheet" "java/lang/Object") ∈ gtb := tc_1 145 (by decide +kernel) rfl
theorem tw_219 : (Jvm.Cond.fieldLink "ConstraintText$Reader" (12 : Nat) "ConstraintText$Reader" "tape" "LConstraintText$Tape;") ∈ gtb := tc_1 146 (by decide +kernel) rfl
theorem tw_221 : (Jvm.Cond.fieldLink "ConstraintText$Reader" (18 : Nat) "ConstraintText$Reader" "nameStarts" "[I") ∈ gtb := tc_1 148 (by decide +kernel) rfl
theorem tw_222 : (Jvm.Cond.fieldLink "ConstraintText$Reader" (22 : Nat) "ConstraintText$Reader" "nameLengths" "[I") ∈ gtb := tc_1 149 (by decide +kernel) rfl
theorem tw_223 : (Jvm.Cond.fieldLink "ConstraintText$Reader" (25 : Nat) "ConstraintText$Reader" "linkStarts" "[I") ∈ gtb := tc_1 150 (by decide +kernel) rfl
theorem tw_224 : (Jvm.Cond.fieldLink "ConstraintText$Reader" (28 : Nat) "ConstraintText$Reader" "linkLengths" "[I") ∈ gtb := tc_1 151 (by decide +kernel) rfl
theorem tw_225 : (Jvm.Cond.fieldLink "ConstraintText$Reader" (34 : Nat) "ConstraintText$Reader" "sheet" "LConstraintText$Sheet;") ∈ gtb := tc_1 152 (by decide +kernel) rfl
theorem tw_226 : (Jvm.Cond.fieldLink "ConstraintText$Reader" (38 : Nat) "ConstraintText$Reader" "start" "I") ∈ gtb := tc_1 153 (by decide +kernel) rfl
theorem tw_227 : (Jvm.Cond.fieldLink "ConstraintText$Reader" (42 : Nat) "ConstraintText$Reader" "end" "I") ∈ gtb := tc_1 154 (by decide +kernel) rfl
theorem tw_228 : (Jvm.Cond.laysFinal "ConstraintText$Reader" "ConstraintText$Reader" "tape" "LConstraintText$Tape;") ∈ gtb := tc_1 155 (by decide +kernel) rfl
theorem tw_230 : (Jvm.Cond.laysFinal "ConstraintText$Reader" "ConstraintText$Reader" "nameStarts" "[I") ∈ gtb := tc_1 157 (by decide +kernel) rfl
theorem tw_232 : (Jvm.Cond.laysFinal "ConstraintText$Reader" "ConstraintText$Reader" "nameLengths" "[I") ∈ gtb := tc_1 159 (by decide +kernel) rfl
theorem tw_234 : (Jvm.Cond.laysFinal "ConstraintText$Reader" "ConstraintText$Reader" "linkStarts" "[I") ∈ gtb := tc_1 161 (by decide +kernel) rfl
theorem tw_236 : (Jvm.Cond.laysFinal "ConstraintText$Reader" "ConstraintText$Reader" "linkLengths" "[I") ∈ gtb := tc_1 163 (by decide +kernel) rfl
theorem tw_238 : (Jvm.Cond.lays "ConstraintText$Reader" "ConstraintText$Reader" "sheet" "LConstraintText$Sheet;") ∈ gtb := tc_1 165 (by decide +kernel) rfl
theorem tw_240 : (Jvm.Cond.lays "ConstraintText$Reader" "ConstraintText$Reader" "start" "I") ∈ gtb := tc_1 167 (by decide +kernel) rfl
theorem tw_242 : (Jvm.Cond.lays "ConstraintText$Reader" "ConstraintText$Reader" "end" "I") ∈ gtb := tc_1 169 (by decide +kernel) rfl
theorem tw_244 : (Jvm.Cond.superclass "ConstraintText$Reader" "java/lang/Object") ∈ gtb := tc_1 171 (by decide +kernel) rfl
theorem tw_245 : (Jvm.Cond.classLink "ConstraintText" (21 : Nat) "ConstraintText$Pins") ∈ gtb := tc_1 172 (by decide +kernel) rfl
theorem tw_246 : (Jvm.Cond.instantiable "ConstraintText$Pins" (2 : Nat)) ∈ gtb := tc_1 173 (by decide +kernel) rfl
theorem tw_248 : (Jvm.Cond.instanceMethod ({ cls := "ConstraintText$Pins", name := "<init>", desc := "()V" } : Jvm.MethodName)) ∈ gtb := tc_1 175 (by decide +kernel) rfl
theorem tw_249 : (Jvm.Cond.code ({ cls := "ConstraintText$Pins", name := "<init>", desc := "()V" } : Jvm.MethodName) prog_3_method_1_code (1 : Nat) (Option.none : Option Jvm.ClassFile.FieldType)) ∈ gtb := tc_1 176 (by decide +kernel) rfl
theorem tw_250 : (Jvm.Cond.methodLink "ConstraintText$Pins" (3 : Nat) ({ cls := "java/lang/Object", name := "<init>", desc := "()V" } : Jvm.MethodName)) ∈ gtb := tc_1 177 (by decide +kernel) rfl
theorem tw_251 : (Jvm.Cond.fieldLink "ConstraintText$Pins" (9 : Nat) "ConstraintText$Pins" "units" "[C") ∈ gtb := tc_1 178 (by decide +kernel) rfl
theorem tw_252 : (Jvm.Cond.fieldLink "ConstraintText$Pins" (15 : Nat) "ConstraintText$Pins" "lengths" "[I") ∈ gtb := tc_1 179 (by decide +kernel) rfl
theorem tw_253 : (Jvm.Cond.laysFinal "ConstraintText$Pins" "ConstraintText$Pins" "units" "[C") ∈ gtb := tc_1 180 (by decide +kernel) rfl
theorem tw_255 : (Jvm.Cond.laysFinal "ConstraintText$Pins" "ConstraintText$Pins" "lengths" "[I") ∈ gtb := tc_1 182 (by decide +kernel) rfl
theorem tw_257 : (Jvm.Cond.superclass "ConstraintText$Pins" "java/lang/Object") ∈ gtb := tc_1 184 (by decide +kernel) rfl
theorem tw_258 : (Jvm.Cond.classLink "ConstraintText" (28 : Nat) "ConstraintText$Sheet") ∈ gtb := tc_1 185 (by decide +kernel) rfl
theorem tw_260 : (Jvm.Cond.fieldLink "ConstraintText" (20 : Nat) "ConstraintText" "tape" "LConstraintText$Tape;") ∈ gtb := tc_1 187 (by decide +kernel) rfl
theorem tw_261 : (Jvm.Cond.fieldLink "ConstraintText" (24 : Nat) "ConstraintText" "pins" "LConstraintText$Pins;") ∈ gtb := tc_1 188 (by decide +kernel) rfl
theorem tw_262 : (Jvm.Cond.fieldLink "ConstraintText" (12 : Nat) "ConstraintText" "reader" "LConstraintText$Reader;") ∈ gtb := tc_1 189 (by decide +kernel) rfl
theorem tw_263 : (Jvm.Cond.fieldLink "ConstraintText" (31 : Nat) "ConstraintText" "sheet" "LConstraintText$Sheet;") ∈ gtb := tc_1 190 (by decide +kernel) rfl
theorem tw_264 : (Jvm.Cond.laysFinal "ConstraintText" "ConstraintText" "tape" "LConstraintText$Tape;") ∈ gtb := tc_1 191 (by decide +kernel) rfl
theorem tw_266 : (Jvm.Cond.laysFinal "ConstraintText" "ConstraintText" "pins" "LConstraintText$Pins;") ∈ gtb := tc_1 193 (by decide +kernel) rfl
theorem tw_268 : (Jvm.Cond.laysFinal "ConstraintText" "ConstraintText" "reader" "LConstraintText$Reader;") ∈ gtb := tc_1 195 (by decide +kernel) rfl
theorem tw_270 : (Jvm.Cond.lays "ConstraintText" "ConstraintText" "sheet" "LConstraintText$Sheet;") ∈ gtb := tc_1 197 (by decide +kernel) rfl
theorem tw_272 : (Jvm.Cond.superclass "ConstraintText" "java/lang/Object") ∈ gtb := tc_1 199 (by decide +kernel) rfl
theorem tw_273 : (Jvm.Cond.methodLink "ConstraintTextLaw" (53 : Nat) ({ cls := "ConstraintText", name := "unit", desc := "(I)Z" } : Jvm.MethodName)) ∈ gtb := tc_1 200 (by decide +kernel) rfl
theorem tw_274 : (Jvm.Cond.instanceMethod ({ cls := "ConstraintText", name := "unit", desc := "(I)Z" } : Jvm.MethodName)) ∈ gtb := tc_1 201 (by decide +kernel) rfl
theorem tw_275 : (Jvm.Cond.selects "ConstraintText" ({ cls := "ConstraintText", name := "unit", desc := "(I)Z" } : Jvm.MethodName) ({ cls := "ConstraintText", name := "unit", desc := "(I)Z" } : Jvm.MethodName)) ∈ gtb := tc_1 202 (by decide +kernel) rfl
theorem tw_276 : (Jvm.Cond.code ({ cls := "ConstraintText", name := "unit", desc := "(I)Z" } : Jvm.MethodName) prog_1_method_2_code (2 : Nat) (Option.some Jvm.ClassFile.FieldType.boolean)) ∈ gtb := tc_1 203 (by decide +kernel) rfl
theorem tw_277 : (Jvm.Cond.methodLink "ConstraintText" (35 : Nat) ({ cls := "ConstraintText$Tape", name := "takes", desc := "(I)Z" } : Jvm.MethodName)) ∈ gtb := tc_1 204 (by decide +kernel) rfl
theorem tw_278 : (Jvm.Cond.static ({ cls := "ConstraintText$Tape", name := "takes", desc := "(I)Z" } : Jvm.MethodName)) ∈ gtb := tc_1 205 (by decide +kernel) rfl
theorem tw_279 : (Jvm.Cond.code ({ cls := "ConstraintText$Tape", name := "takes", desc := "(I)Z" } : Jvm.MethodName) prog_6_method_2_code (1 : Nat) (Option.some Jvm.ClassFile.FieldType.boolean)) ∈ gtb := tc_1 206 (by decide +kernel) rfl
theorem tw_280 : (Jvm.Cond.methodLink "ConstraintText" (41 : Nat) ({ cls := "ConstraintText$Tape", name := "room", desc := "()I" } : Jvm.MethodName)) ∈ gtb := tc_1 207 (by decide +kernel) rfl
theorem tw_281 : (Jvm.Cond.instanceMethod ({ cls := "ConstraintText$Tape", name := "room", desc := "()I" } : Jvm.MethodName)) ∈ gtb := tc_1 208 (by decide +kernel) rfl
theorem tw_282 : (Jvm.Cond.selects "ConstraintText$Tape" ({ cls := "ConstraintText$Tape", name := "room", desc := "()I" } : Jvm.MethodName) ({ cls := "ConstraintText$Tape", name := "room", desc := "()I" } : Jvm.MethodName)) ∈ gtb := tc_1 209 (by decide +kernel) rfl
theorem tw_283 : (Jvm.Cond.code ({ cls := "ConstraintText$Tape", name := "room", desc := "()I" } : Jvm.MethodName) prog_6_method_3_code (1 : Nat) (Option.some Jvm.ClassFile.FieldType.int)) ∈ gtb := tc_1 210 (by decide +kernel) rfl
theorem tw_284 : (Jvm.Cond.methodLink "ConstraintText" (45 : Nat) ({ cls := "ConstraintText$Tape", name := "append", desc := "(I)V" } : Jvm.MethodName)) ∈ gtb := tc_1 211 (by decide +kernel) rfl
theorem tw_285 : (Jvm.Cond.instanceMethod ({ cls := "ConstraintText$Tape", name := "append", desc := "(I)V" } : Jvm.MethodName)) ∈ gtb := tc_1 212 (by decide +kernel) rfl
theorem tw_286 : (Jvm.Cond.selects "ConstraintText$Tape" ({ cls := "ConstraintText$Tape", name := "append", desc := "(I)V" } : Jvm.MethodName) ({ cls := "ConstraintText$Tape", name := "append", desc := "(I)V" } : Jvm.MethodName)) ∈ gtb := tc_1 213 (by decide +kernel) rfl
theorem tw_287 : (Jvm.Cond.code ({ cls := "ConstraintText$Tape", name := "append", desc := "(I)V" } : Jvm.MethodName) prog_6_method_4_code (2 : Nat) (Option.none : Option Jvm.ClassFile.FieldType)) ∈ gtb := tc_1 214 (by decide +kernel) rfl
theorem tw_288 : (Jvm.Cond.methodLink "ConstraintTextLaw" (58 : Nat) ({ cls := "ConstraintText", name := "units", desc := "(I)Z" } : Jvm.MethodName)) ∈ gtb := tc_1 215 (by decide +kernel) rfl
theorem tw_289 : (Jvm.Cond.instanceMethod ({ cls := "ConstraintText", name := "units", desc := "(I)Z" } : Jvm.MethodName)) ∈ gtb := tc_1 216 (by decide +kernel) rfl
theorem tw_290 : (Jvm.Cond.selects "ConstraintText" ({ cls := "ConstraintText", name := "units", desc := "(I)Z" } : Jvm.MethodName) ({ cls := "ConstraintText", name := "units", desc := "(I)Z" } : Jvm.MethodName)) ∈ gtb := tc_1 217 (by decide +kernel) rfl
theorem tw_291 : (Jvm.Cond.code ({ cls := "ConstraintText", name := "units", desc := "(I)Z" } : Jvm.MethodName) prog_1_method_3_code (5 : Nat) (Option.some Jvm.ClassFile.FieldType.boolean)) ∈ gtb := tc_1 218 (by decide +kernel) rfl
theorem tw_292 : (Jvm.Cond.methodLink "ConstraintTextLaw" (72 : Nat) ({ cls := "ConstraintText", name := "read", desc := "()I" } : Jvm.MethodName)) ∈ gtb := tc_1 219 (by decide +kernel) rfl
theorem tw_293 : (Jvm.Cond.instanceMethod ({ cls := "ConstraintText", name := "read", desc := "()I" } : Jvm.MethodName)) ∈ gtb := tc_1 220 (by decide +kernel) rfl
theorem tw_294 : (Jvm.Cond.selects "ConstraintText" ({ cls := "ConstraintText", name := "read", desc := "()I" } : Jvm.MethodName) ({ cls := "ConstraintText", name := "read", desc := "()I" } : Jvm.MethodName)) ∈ gtb := tc_1 221 (by decide +kernel) rfl
theorem tw_295 : (Jvm.Cond.code ({ cls := "ConstraintText", name := "read", desc := "()I" } : Jvm.MethodName) prog_1_method_5_code (3 : Nat) (Option.some Jvm.ClassFile.FieldType.int)) ∈ gtb := tc_1 222 (by decide +kernel) rfl
theorem tw_296 : (Jvm.Cond.methodLink "ConstraintText" (70 : Nat) ({ cls := "ConstraintText$Reader", name := "faultOfTape", desc := "()I" } : Jvm.MethodName)) ∈ gtb := tc_1 223 (by decide +kernel) rfl
theorem tw_297 : (Jvm.Cond.instanceMethod ({ cls := "ConstraintText$Reader", name := "faultOfTape", desc := "()I" } : Jvm.MethodName)) ∈ gtb := tc_1 224 (by decide +kernel) rfl
theorem tw_298 : (Jvm.Cond.selects "ConstraintText$Reader" ({ cls := "ConstraintText$Reader", name := "faultOfTape", desc := "()I" } : Jvm.MethodName) ({ cls := "ConstraintText$Reader", name := "faultOfTape", desc := "()I" } : Jvm.MethodName)) ∈ gtb := tc_1 225 (by decide +kernel) rfl
theorem tw_299 : (Jvm.Cond.code ({ cls := "ConstraintText$Reader", name := "faultOfTape", desc := "()I" } : Jvm.MethodName) prog_4_method_3_code (2 : Nat) (Option.some Jvm.ClassFile.FieldType.int)) ∈ gtb := tc_1 226 (by decide +kernel) rfl
theorem tw_300 : (Jvm.Cond.methodLink "ConstraintText$Reader" (45 : Nat) ({ cls := "ConstraintText$Sheet", name := "wipe", desc := "()V" } : Jvm.MethodName)) ∈ gtb := tc_1 227 (by decide +kernel) rfl
theorem tw_301 : (Jvm.Cond.instanceMethod ({ cls := "ConstraintText$Sheet", name := "wipe", desc := "()V" } : Jvm.MethodName)) ∈ gtb := tc_1 228 (by decide +kernel) rfl
theorem tw_302 : (Jvm.Cond.selects "ConstraintText$Sheet" ({ cls := "ConstraintText$Sheet", name := "wipe", desc := "()V" } : Jvm.MethodName) ({ cls := "ConstraintText$Sheet", name := "wipe", desc := "()V" } : Jvm.MethodName)) ∈ gtb := tc_1 229 (by decide +kernel) rfl
theorem tw_303 : (Jvm.Cond.code ({ cls := "ConstraintText$Sheet", name := "wipe", desc := "()V" } : Jvm.MethodName) prog_5_method_2_code (1 : Nat) (Option.none : Option Jvm.ClassFile.FieldType)) ∈ gtb := tc_1 230 (by decide +kernel) rfl
theorem tw_304 : (Jvm.Cond.methodLink "ConstraintText$Sheet" (49 : Nat) ({ cls := "ConstraintText$ClockTable", name := "wipe", desc := "()V" } : Jvm.MethodName)) ∈ gtb := tc_1 231 (by decide +kernel) rfl
theorem tw_305 : (Jvm.Cond.instanceMethod ({ cls := "ConstraintText$ClockTable", name := "wipe", desc := "()V" } : Jvm.MethodName)) ∈ gtb := tc_1 232 (by decide +kernel) rfl
theorem tw_306 : (Jvm.Cond.selects "ConstraintText$ClockTable" ({ cls := "ConstraintText$ClockTable", name := "wipe", desc := "()V" } : Jvm.MethodName) ({ cls := "ConstraintText$ClockTable", name := "wipe", desc := "()V" } : Jvm.MethodName)) ∈ gtb := tc_1 233 (by decide +kernel) rfl
theorem tw_307 : (Jvm.Cond.code ({ cls := "ConstraintText$ClockTable", name := "wipe", desc := "()V" } : Jvm.MethodName) prog_2_method_3_code (1 : Nat) (Option.none : Option Jvm.ClassFile.FieldType)) ∈ gtb := tc_1 234 (by decide +kernel) rfl
theorem tw_308 : (Jvm.Cond.methodLink "ConstraintText$Reader" (48 : Nat) ({ cls := "java/util/Arrays", name := "fill", desc := "([II)V" } : Jvm.MethodName)) ∈ gtb := tc_1 235 (by decide +kernel) rfl
theorem tw_309 : (Jvm.Cond.static ({ cls := "java/util/Arrays", name := "fill", desc := "([II)V" } : Jvm.MethodName)) ∈ gtb := tc_1 236 (by decide +kernel) rfl
theorem tw_310 : (Jvm.Cond.code ({ cls := "java/util/Arrays", name := "fill", desc := "([II)V" } : Jvm.MethodName) prog_18_method_103_code (4 : Nat) (Option.none : Option Jvm.ClassFile.FieldType)) ∈ gtb := tc_1 237 (by decide +kernel) rfl
theorem tw_311 : (Jvm.Cond.methodLink "ConstraintText$Reader" (54 : Nat) ({ cls := "ConstraintText$Reader", name := "takeWord", desc := "()V" } : Jvm.MethodName)) ∈ gtb := tc_1 238 (by decide +kernel) rfl
theorem tw_313 : (Jvm.Cond.instanceMethod ({ cls := "ConstraintText$Reader", name := "takeWord", desc := "()V" } : Jvm.MethodName)) ∈ gtb := tc_2 0 (by decide +kernel) rfl
theorem tw_314 : (Jvm.Cond.code ({ cls := "ConstraintText$Reader", name := "takeWord", desc := "()V" } : Jvm.MethodName) prog_4_method_5_code (3 : Nat) (Option.none : Option Jvm.ClassFile.FieldType)) ∈ gtb := tc_2 1 (by decide +kernel) rfl
theorem tw_315 : (Jvm.Cond.methodLink "ConstraintText$Reader" (112 : Nat) ({ cls := "ConstraintText$Tape", name := "at", desc := "(I)C" } : Jvm.MethodName)) ∈ gtb := tc_2 2 (by decide +kernel) rfl
theorem tw_316 : (Jvm.Cond.instanceMethod ({ cls := "ConstraintText$Tape", name := "at", desc := "(I)C" } : Jvm.MethodName)) ∈ gtb := tc_2 3 (by decide +kernel) rfl
theorem tw_317 : (Jvm.Cond.selects "ConstraintText$Tape" ({ cls := "ConstraintText$Tape", name := "at", desc := "(I)C" } : Jvm.MethodName) ({ cls := "ConstraintText$Tape", name := "at", desc := "(I)C" } : Jvm.MethodName)) ∈ gtb := tc_2 4 (by decide +kernel) rfl
theorem tw_318 : (Jvm.Cond.code ({ cls := "ConstraintText$Tape", name := "at", desc := "(I)C" } : Jvm.MethodName) prog_6_method_6_code (2 : Nat) (Option.some Jvm.ClassFile.FieldType.char)) ∈ gtb := tc_2 5 (by decide +kernel) rfl
theorem tw_320 : (Jvm.Cond.static ({ cls := "ConstraintText", name := "isBlank", desc := "(I)Z" } : Jvm.MethodName)) ∈ gtb := tc_2 7 (by decide +kernel) rfl
theorem tw_321 : (Jvm.Cond.code ({ cls := "ConstraintText", name := "isBlank", desc := "(I)Z" } : Jvm.MethodName) prog_1_method_20_code (1 : Nat) (Option.some Jvm.ClassFile.FieldType.boolean)) ∈ gtb := tc_2 8 (by decide +kernel) rfl
theorem tw_322 : (Jvm.Cond.methodLink "ConstraintText$Reader" (60 : Nat) ({ cls := "ConstraintText$Reader", name := "takeRow", desc := "()Z" } : Jvm.MethodName)) ∈ gtb := tc_2 9 (by decide +kernel) rfl
theorem tw_324 : (Jvm.Cond.instanceMethod ({ cls := "ConstraintText$Reader", name := "takeRow", desc := "()Z" } : Jvm.MethodName)) ∈ gtb := tc_2 11 (by decide +kernel) rfl
theorem tw_325 : (Jvm.Cond.code ({ cls := "ConstraintText$Reader", name := "takeRow", desc := "()Z" } : Jvm.MethodName) prog_4_method_4_code (3 : Nat) (Option.some Jvm.ClassFile.FieldType.boolean)) ∈ gtb := tc_2 12 (by decide +kernel) rfl
theorem tw_326 : (Jvm.Cond.methodLink "ConstraintText$Reader" (73 : Nat) ({ cls := "ConstraintText$Reader", name := "sortInHand", desc := "()I" } : Jvm.MethodName)) ∈ gtb := tc_2 13 (by decide +kernel) rfl
theorem tw_328 : (Jvm.Cond.instanceMethod ({ cls := "ConstraintText$Reader", name := "sortInHand", desc := "()I" } : Jvm.MethodName)) ∈ gtb := tc_2 15 (by decide +kernel) rfl
theorem tw_329 : (Jvm.Cond.code ({ cls := "ConstraintText$Reader", name := "sortInHand", desc := "()I" } : Jvm.MethodName) prog_4_method_17_code (2 : Nat) (Option.some Jvm.ClassFile.FieldType.int)) ∈ gtb := tc_2 16 (by decide +kernel) rfl
theorem tw_331 : (Jvm.Cond.static ({ cls := "ConstraintText", name := "keyword", desc := "(I)Ljava/lang/String;" } : Jvm.MethodName)) ∈ gtb := tc_2 18 (by decide +kernel) rfl
theorem tw_332 : (Jvm.Cond.code ({ cls := "ConstraintText", name := "keyword", desc := "(I)Ljava/lang/String;" } : Jvm.MethodName) prog_1_method_22_code (1 : Nat) (Option.some (Jvm.ClassFile.FieldType.object "java/lang/String"))) ∈ gtb := tc_2 19 (by decide +kernel) rfl
theorem tw_343 : (Jvm.Cond.methodLink "ConstraintText$Reader" (185 : Nat) ({ cls := "ConstraintText$Reader", name := "isInHand", desc := "(Ljava/lang/String;)Z" } : Jvm.MethodName)) ∈ gtb := tc_2 30 (by decide +kernel) rfl
theorem tw_345 : (Jvm.Cond.instanceMethod ({ cls := "ConstraintText$Reader", name := "isInHand", desc := "(Ljava/lang/String;)Z" } : Jvm.MethodName)) ∈ gtb := tc_2 32 (by decide +kernel) rfl
theorem tw_346 : (Jvm.Cond.code ({ cls := "ConstraintText$Reader", name := "isInHand", desc := "(Ljava/lang/String;)Z" } : Jvm.MethodName) prog_4_method_18_code (3 : Nat) (Option.some Jvm.ClassFile.FieldType.boolean)) ∈ gtb := tc_2 33 (by decide +kernel) rfl
theorem tw_347 : (Jvm.Cond.methodLink "ConstraintText$Reader" (189 : Nat) ({ cls := "java/lang/String", name := "length", desc := "()I" } : Jvm.MethodName)) ∈ gtb := tc_2 34 (by decide +kernel) rfl
theorem tw_348 : (Jvm.Cond.instanceMethod ({ cls := "java/lang/String", name := "length", desc := "()I" } : Jvm.MethodName)) ∈ gtb := tc_2 35 (by decide +kernel) rfl
theorem tw_349 : (Jvm.Cond.selects "java/lang/String" ({ cls := "java/lang/String", name := "length", desc := "()I" } : Jvm.MethodName) ({ cls := "java/lang/String", name := "length", desc := "()I" } : Jvm.MethodName)) ∈ gtb := tc_2 36 (by decide +kernel) rfl
theorem tw_350 : (Jvm.Cond.code ({ cls := "java/lang/String", name := "length", desc := "()I" } : Jvm.MethodName) prog_14_method_54_code (1 : Nat) (Option.some Jvm.ClassFile.FieldType.int)) ∈ gtb := tc_2 37 (by decide +kernel) rfl
theorem tw_351 : (Jvm.Cond.methodLink "java/lang/String" (335 : Nat) ({ cls := "java/lang/String", name := "coder", desc := "()B" } : Jvm.MethodName)) ∈ gtb := tc_2 38 (by decide +kernel) rfl
theorem tw_352 : (Jvm.Cond.instanceMethod ({ cls := "java/lang/String", name := "coder", desc := "()B" } : Jvm.MethodName)) ∈ gtb := tc_2 39 (by decide +kernel) rfl
theorem tw_353 : (Jvm.Cond.selects "java/lang/String" ({ cls := "java/lang/String", name := "coder", desc := "()B" } : Jvm.MethodName) ({ cls := "java/lang/String", name := "coder", desc := "()B" } : Jvm.MethodName)) ∈ gtb := tc_2 40 (by decide +kernel) rfl
theorem tw_354 : (Jvm.Cond.code ({ cls := "java/lang/String", name := "coder", desc := "()B" } : Jvm.MethodName) prog_14_method_152_code (1 : Nat) (Option.some Jvm.ClassFile.FieldType.byte)) ∈ gtb := tc_2 41 (by decide +kernel) rfl
theorem tw_355 : (Jvm.Cond.fieldLink "java/lang/String" (38 : Nat) "java/lang/String" "COMPACT_STRINGS" "Z") ∈ gtb := tc_2 42 (by decide +kernel) rfl
theorem tw_357 : (Jvm.Cond.methodLink "ConstraintText$Reader" (193 : Nat) ({ cls := "java/lang/String", name := "charAt", desc := "(I)C" } : Jvm.MethodName)) ∈ gtb := tc_2 44 (by decide +kernel) rfl
theorem tw_358 : (Jvm.Cond.instanceMethod ({ cls := "java/lang/String", name := "charAt", desc := "(I)C" } : Jvm.MethodName)) ∈ gtb := tc_2 45 (by decide +kernel) rfl
theorem tw_359 : (Jvm.Cond.selects "java/lang/String" ({ cls := "java/lang/String", name := "charAt", desc := "(I)C" } : Jvm.MethodName) ({ cls := "java/lang/String", name := "charAt", desc := "(I)C" } : Jvm.MethodName)) ∈ gtb := tc_2 46 (by decide +kernel) rfl
theorem tw_360 : (Jvm.Cond.code ({ cls := "java/lang/String", name := "charAt", desc := "(I)C" } : Jvm.MethodName) prog_14_method_56_code (2 : Nat) (Option.some Jvm.ClassFile.FieldType.char)) ∈ gtb := tc_2 47 (by decide +kernel) rfl
theorem tw_361 : (Jvm.Cond.methodLink "java/lang/String" (492 : Nat) ({ cls := "java/lang/String", name := "isLatin1", desc := "()Z" } : Jvm.MethodName)) ∈ gtb := tc_2 48 (by decide +kernel) rfl
theorem tw_362 : (Jvm.Cond.instanceMethod ({ cls := "java/lang/String", name := "isLatin1", desc := "()Z" } : Jvm.MethodName)) ∈ gtb := tc_2 49 (by decide +kernel) rfl
theorem tw_363 : (Jvm.Cond.selects "java/lang/String" ({ cls := "java/lang/String", name := "isLatin1", desc := "()Z" } : Jvm.MethodName) ({ cls := "java/lang/String", name := "isLatin1", desc := "()Z" } : Jvm.MethodName)) ∈ gtb := tc_2 50 (by decide +kernel) rfl
theorem tw_364 : (Jvm.Cond.code ({ cls := "java/lang/String", name := "isLatin1", desc := "()Z" } : Jvm.MethodName) prog_14_method_154_code (1 : Nat) (Option.some Jvm.ClassFile.FieldType.boolean)) ∈ gtb := tc_2 51 (by decide +kernel) rfl
theorem tw_365 : (Jvm.Cond.methodLink "java/lang/String" (495 : Nat) ({ cls := "java/lang/StringLatin1", name := "charAt", desc := "([BI)C" } : Jvm.MethodName)) ∈ gtb := tc_2 52 (by decide +kernel) rfl
theorem tw_366 : (Jvm.Cond.static ({ cls := "java/lang/StringLatin1", name := "charAt", desc := "([BI)C" } : Jvm.MethodName)) ∈ gtb := tc_2 53 (by decide +kernel) rfl
theorem tw_367 : (Jvm.Cond.code ({ cls := "java/lang/StringLatin1", name := "charAt", desc := "([BI)C" } : Jvm.MethodName) prog_15_method_2_code (2 : Nat) (Option.some Jvm.ClassFile.FieldType.char)) ∈ gtb := tc_2 54 (by decide +kernel) rfl
theorem tw_368 : (Jvm.Cond.methodLink "java/lang/StringLatin1" (9 : Nat) ({ cls := "java/lang/String", name := "checkIndex", desc := "(II)V" } : Jvm.MethodName)) ∈ gtb := tc_2 55 (by decide +kernel) rfl
theorem tw_369 : (Jvm.Cond.static ({ cls := "java/lang/String", name := "checkIndex", desc := "(II)V" } : Jvm.MethodName)) ∈ gtb := tc_2 56 (by decide +kernel) rfl
theorem tw_370 : (Jvm.Cond.code ({ cls := "java/lang/String", name := "checkIndex", desc := "(II)V" } : Jvm.MethodName) prog_14_method_155_code (2 : Nat) (Option.none : Option Jvm.ClassFile.FieldType)) ∈ gtb := tc_2 57 (by decide +kernel) rfl
theorem tw_371 : (Jvm.Cond.fieldLink "java/lang/String" (1053 : Nat) "jdk/internal/util/Preconditions" "SIOOBE_FORMATTER" "Ljava/util/function/BiFunction;") ∈ gtb := tc_2 58 (by decide +kernel) rfl
theorem tw_373 : (Jvm.Cond.methodLink "java/lang/String" (1059 : Nat) ({ cls := "jdk/internal/util/Preconditions", name := "checkIndex", desc := "(IILjava/util/function/BiFunction;)I" } : Jvm.MethodName)) ∈ gtb := tc_2 60 (by decide +kernel) rfl
theorem tw_374 : (Jvm.Cond.static ({ cls := "jdk/internal/util/Preconditions", name := "checkIndex", desc := "(IILjava/util/function/BiFunction;)I" } : Jvm.MethodName)) ∈ gtb := tc_2 61 (by decide +kernel) rfl
theorem tw_375 : (Jvm.Cond.code ({ cls := "jdk/internal/util/Preconditions", name := "checkIndex", desc := "(IILjava/util/function/BiFunction;)I" } : Jvm.MethodName) prog_19_method_11_code (3 : Nat) (Option.some Jvm.ClassFile.FieldType.int)) ∈ gtb := tc_2 62 (by decide +kernel) rfl
theorem tw_376 : (Jvm.Cond.methodLink "java/lang/String" (498 : Nat) ({ cls := "java/lang/StringUTF16", name := "charAt", desc := "([BI)C" } : Jvm.MethodName)) ∈ gtb := tc_2 63 (by decide +kernel) rfl
theorem tw_377 : (Jvm.Cond.static ({ cls := "java/lang/StringUTF16", name := "charAt", desc := "([BI)C" } : Jvm.MethodName)) ∈ gtb := tc_2 64 (by decide +kernel) rfl
theorem tw_378 : (Jvm.Cond.code ({ cls := "java/lang/StringUTF16", name := "charAt", desc := "([BI)C" } : Jvm.MethodName) prog_16_method_83_code (2 : Nat) (Option.some Jvm.ClassFile.FieldType.char)) ∈ gtb := tc_2 65 (by decide +kernel) rfl
theorem tw_379 : (Jvm.Cond.methodLink "java/lang/StringUTF16" (67 : Nat) ({ cls := "java/lang/StringUTF16", name := "checkIndex", desc := "(I[B)V" } : Jvm.MethodName)) ∈ gtb := tc_2 66 (by decide +kernel) rfl
theorem tw_380 : (Jvm.Cond.static ({ cls := "java/lang/StringUTF16", name := "checkIndex", desc := "(I[B)V" } : Jvm.MethodName)) ∈ gtb := tc_2 67 (by decide +kernel) rfl
theorem tw_381 : (Jvm.Cond.code ({ cls := "java/lang/StringUTF16", name := "checkIndex", desc := "(I[B)V" } : Jvm.MethodName) prog_16_method_91_code (2 : Nat) (Option.none : Option Jvm.ClassFile.FieldType)) ∈ gtb := tc_2 68 (by decide +kernel) rfl
theorem tw_382 : (Jvm.Cond.methodLink "java/lang/StringUTF16" (48 : Nat) ({ cls := "java/lang/StringUTF16", name := "length", desc := "([B)I" } : Jvm.MethodName)) ∈ gtb := tc_2 69 (by decide +kernel) rfl
theorem tw_383 : (Jvm.Cond.static ({ cls := "java/lang/StringUTF16", name := "length", desc := "([B)I" } : Jvm.MethodName)) ∈ gtb := tc_2 70 (by decide +kernel) rfl
theorem tw_384 : (Jvm.Cond.code ({ cls := "java/lang/StringUTF16", name := "length", desc := "([B)I" } : Jvm.MethodName) prog_16_method_6_code (1 : Nat) (Option.some Jvm.ClassFile.FieldType.int)) ∈ gtb := tc_2 71 (by decide +kernel) rfl
theorem tw_385 : (Jvm.Cond.methodLink "java/lang/StringUTF16" (414 : Nat) ({ cls := "java/lang/String", name := "checkIndex", desc := "(II)V" } : Jvm.MethodName)) ∈ gtb := tc_2 72 (by decide +kernel) rfl
theorem tw_386 : (Jvm.Cond.methodLink "java/lang/StringUTF16" (71 : Nat) ({ cls := "java/lang/StringUTF16", name := "getChar", desc := "([BI)C" } : Jvm.MethodName)) ∈ gtb := tc_2 73 (by decide +kernel) rfl
theorem tw_387 : (Jvm.Cond.static ({ cls := "java/lang/StringUTF16", name := "getChar", desc := "([BI)C" } : Jvm.MethodName)) ∈ gtb := tc_2 74 (by decide +kernel) rfl
theorem tw_388 : (Jvm.Cond.code ({ cls := "java/lang/StringUTF16", name := "getChar", desc := "([BI)C" } : Jvm.MethodName) prog_16_method_5_code (2 : Nat) (Option.some Jvm.ClassFile.FieldType.char)) ∈ gtb := tc_2 75 (by decide +kernel) rfl
theorem tw_389 : (Jvm.Cond.fieldLink "java/lang/StringUTF16" (44 : Nat) "java/lang/StringUTF16" "$assertionsDisabled" "Z") ∈ gtb := tc_2 76 (by decide +kernel) rfl
theorem tw_391 : (Jvm.Cond.fieldLink "java/lang/StringUTF16" (59 : Nat) "java/lang/StringUTF16" "HI_BYTE_SHIFT" "I") ∈ gtb := tc_2 78 (by decide +kernel) rfl
theorem tw_393 : (Jvm.Cond.fieldLink "java/lang/StringUTF16" (63 : Nat) "java/lang/StringUTF16" "LO_BYTE_SHIFT" "I") ∈ gtb := tc_2 80 (by decide +kernel) rfl
theorem tw_395 : (Jvm.Cond.methodLink "ConstraintText$Reader" (77 : Nat) ({ cls := "ConstraintText$Sheet", name := "open", desc := "(I)V" } : Jvm.MethodName)) ∈ gtb := tc_2 82 (by decide +kernel) rfl
theorem tw_396 : (Jvm.Cond.instanceMethod ({ cls := "ConstraintText$Sheet", name := "open", desc := "(I)V" } : Jvm.MethodName)) ∈ gtb := tc_2 83 (by decide +kernel) rfl
theorem tw_397 : (Jvm.Cond.selects "ConstraintText$Sheet" ({ cls := "ConstraintText$Sheet", name := "open", desc := "(I)V" } : Jvm.MethodName) ({ cls := "ConstraintText$Sheet", name := "open", desc := "(I)V" } : Jvm.MethodName)) ∈ gtb := tc_2 84 (by decide +kernel) rfl
theorem tw_398 : (Jvm.Cond.code ({ cls := "ConstraintText$Sheet", name := "open", desc := "(I)V" } : Jvm.MethodName) prog_5_method_3_code (3 : Nat) (Option.none : Option Jvm.ClassFile.FieldType)) ∈ gtb := tc_2 85 (by decide +kernel) rfl
theorem tw_399 : (Jvm.Cond.methodLink "ConstraintText$Reader" (81 : Nat) ({ cls := "ConstraintText$Reader", name := "printWord", desc := "()V" } : Jvm.MethodName)) ∈ gtb := tc_2 86 (by decide +kernel) rfl
theorem tw_401 : (Jvm.Cond.instanceMethod ({ cls := "ConstraintText$Reader", name := "printWord", desc := "()V" } : Jvm.MethodName)) ∈ gtb := tc_2 88 (by decide +kernel) rfl
theorem tw_402 : (Jvm.Cond.code ({ cls := "ConstraintText$Reader", name := "printWord", desc := "()V" } : Jvm.MethodName) prog_4_method_16_code (2 : Nat) (Option.none : Option Jvm.ClassFile.FieldType)) ∈ gtb := tc_2 89 (by decide +kernel) rfl
theorem tw_403 : (Jvm.Cond.methodLink "ConstraintText$Reader" (178 : Nat) ({ cls := "ConstraintText$Sheet", name := "printGap", desc := "()V" } : Jvm.MethodName)) ∈ gtb := tc_2 90 (by decide +kernel) rfl
theorem tw_404 : (Jvm.Cond.instanceMethod ({ cls := "ConstraintText$Sheet", name := "printGap", desc := "()V" } : Jvm.MethodName)) ∈ gtb := tc_2 91 (by decide +kernel) rfl
theorem tw_405 : (Jvm.Cond.selects "ConstraintText$Sheet" ({ cls := "ConstraintText$Sheet", name := "printGap", desc := "()V" } : Jvm.MethodName) ({ cls := "ConstraintText$Sheet", name := "printGap", desc := "()V" } : Jvm.MethodName)) ∈ gtb := tc_2 92 (by decide +kernel) rfl
theorem tw_406 : (Jvm.Cond.code ({ cls := "ConstraintText$Sheet", name := "printGap", desc := "()V" } : Jvm.MethodName) prog_5_method_9_code (1 : Nat) (Option.none : Option Jvm.ClassFile.FieldType)) ∈ gtb := tc_2 93 (by decide +kernel) rfl
theorem tw_407 : (Jvm.Cond.methodLink "ConstraintText$Sheet" (60 : Nat) ({ cls := "ConstraintText$Sheet", name := "printedAt", desc := "(I)I" } : Jvm.MethodName)) ∈ gtb := tc_2 94 (by decide +kernel) rfl
theorem tw_408 : (Jvm.Cond.instanceMethod ({ cls := "ConstraintText$Sheet", name := "printedAt", desc := "(I)I" } : Jvm.MethodName)) ∈ gtb := tc_2 95 (by decide +kernel) rfl
theorem tw_409 : (Jvm.Cond.selects "ConstraintText$Sheet" ({ cls := "ConstraintText$Sheet", name := "printedAt", desc := "(I)I" } : Jvm.MethodName) ({ cls := "ConstraintText$Sheet", name := "printedAt", desc := "(I)I" } : Jvm.MethodName)) ∈ gtb := tc_2 96 (by decide +kernel) rfl
theorem tw_410 : (Jvm.Cond.code ({ cls := "ConstraintText$Sheet", name := "printedAt", desc := "(I)I" } : Jvm.MethodName) prog_5_method_11_code (2 : Nat) (Option.some Jvm.ClassFile.FieldType.int)) ∈ gtb := tc_2 97 (by decide +kernel) rfl
theorem tw_411 : (Jvm.Cond.methodLink "ConstraintText$Sheet" (64 : Nat) ({ cls := "ConstraintText$Sheet", name := "print", desc := "(I)V" } : Jvm.MethodName)) ∈ gtb := tc_2 98 (by decide +kernel) rfl
theorem tw_412 : (Jvm.Cond.instanceMethod ({ cls := "ConstraintText$Sheet", name := "print", desc := "(I)V" } : Jvm.MethodName)) ∈ gtb := tc_2 99 (by decide +kernel) rfl
theorem tw_413 : (Jvm.Cond.selects "ConstraintText$Sheet" ({ cls := "ConstraintText$Sheet", name := "print", desc := "(I)V" } : Jvm.MethodName) ({ cls := "ConstraintText$Sheet", name := "print", desc := "(I)V" } : Jvm.MethodName)) ∈ gtb := tc_2 100 (by decide +kernel) rfl
theorem tw_414 : (Jvm.Cond.code ({ cls := "ConstraintText$Sheet", name := "print", desc := "(I)V" } : Jvm.MethodName) prog_5_method_8_code (2 : Nat) (Option.none : Option Jvm.ClassFile.FieldType)) ∈ gtb := tc_2 101 (by decide +kernel) rfl
theorem tw_415 : (Jvm.Cond.methodLink "ConstraintText$Reader" (175 : Nat) ({ cls := "ConstraintText$Sheet", name := "print", desc := "(I)V" } : Jvm.MethodName)) ∈ gtb := tc_2 102 (by decide +kernel) rfl
theorem tw_416 : (Jvm.Cond.methodLink "ConstraintText$Reader" (84 : Nat) ({ cls := "ConstraintText$Reader", name := "takeNewClock", desc := "()Z" } : Jvm.MethodName)) ∈ gtb := tc_2 103 (by decide +kernel) rfl
theorem tw_418 : (Jvm.Cond.instanceMethod ({ cls := "ConstraintText$Reader", name := "takeNewClock", desc := "()Z" } : Jvm.MethodName)) ∈ gtb := tc_2 105 (by decide +kernel) rfl
theorem tw_419 : (Jvm.Cond.code ({ cls := "ConstraintText$Reader", name := "takeNewClock", desc := "()Z" } : Jvm.MethodName) prog_4_method_6_code (2 : Nat) (Option.some Jvm.ClassFile.FieldType.boolean)) ∈ gtb := tc_2 106 (by decide +kernel) rfl
theorem tw_420 : (Jvm.Cond.methodLink "ConstraintText$Reader" (128 : Nat) ({ cls := "ConstraintText$Reader", name := "isNameInHand", desc := "()Z" } : Jvm.MethodName)) ∈ gtb := tc_2 107 (by decide +kernel) rfl
theorem tw_422 : (Jvm.Cond.instanceMethod ({ cls := "ConstraintText$Reader", name := "isNameInHand", desc := "()Z" } : Jvm.MethodName)) ∈ gtb := tc_2 109 (by decide +kernel) rfl
theorem tw_423 : (Jvm.Cond.code ({ cls := "ConstraintText$Reader", name := "isNameInHand", desc := "()Z" } : Jvm.MethodName) prog_4_method_20_code (2 : Nat) (Option.some Jvm.ClassFile.FieldType.boolean)) ∈ gtb := tc_2 110 (by decide +kernel) rfl
theorem tw_425 : (Jvm.Cond.static ({ cls := "ConstraintText", name := "isSmallLetter", desc := "(I)Z" } : Jvm.MethodName)) ∈ gtb := tc_2 112 (by decide +kernel) rfl
theorem tw_426 : (Jvm.Cond.code ({ cls := "ConstraintText", name := "isSmallLetter", desc := "(I)Z" } : Jvm.MethodName) prog_1_method_17_code (1 : Nat) (Option.some Jvm.ClassFile.FieldType.boolean)) ∈ gtb := tc_2 113 (by decide +kernel) rfl
theorem tw_427 : (Jvm.Cond.methodLink "ConstraintText$Reader" (131 : Nat) ({ cls := "ConstraintText$Reader", name := "clockNamed", desc := "(II)I" } : Jvm.MethodName)) ∈ gtb := tc_2 114 (by decide +kernel) rfl
theorem tw_429 : (Jvm.Cond.instanceMethod ({ cls := "ConstraintText$Reader", name := "clockNamed", desc := "(II)I" } : Jvm.MethodName)) ∈ gtb := tc_2 116 (by decide +kernel) rfl
theorem tw_430 : (Jvm.Cond.code ({ cls := "ConstraintText$Reader", name := "clockNamed", desc := "(II)I" } : Jvm.MethodName) prog_4_method_23_code (4 : Nat) (Option.some Jvm.ClassFile.FieldType.int)) ∈ gtb := tc_2 117 (by decide +kernel) rfl
theorem tw_431 : (Jvm.Cond.methodLink "ConstraintText$Reader" (205 : Nat) ({ cls := "ConstraintText$Reader", name := "isSameText", desc := "(III)Z" } : Jvm.MethodName)) ∈ gtb := tc_2 118 (by decide +kernel) rfl
theorem tw_433 : (Jvm.Cond.instanceMethod ({ cls := "ConstraintText$Reader", name := "isSameText", desc := "(III)Z" } : Jvm.MethodName)) ∈ gtb := tc_2 120 (by decide +kernel) rfl
theorem tw_434 : (Jvm.Cond.code ({ cls := "ConstraintText$Reader", name := "isSameText", desc := "(III)Z" } : Jvm.MethodName) prog_4_method_24_code (5 : Nat) (Option.some Jvm.ClassFile.FieldType.boolean)) ∈ gtb := tc_2 121 (by decide +kernel) rfl
theorem tw_435 : (Jvm.Cond.methodLink "ConstraintText$Reader" (138 : Nat) ({ cls := "ConstraintText$ClockTable", name := "open", desc := "(I)V" } : Jvm.MethodName)) ∈ gtb := tc_2 122 (by decide +kernel) rfl
theorem tw_436 : (Jvm.Cond.instanceMethod ({ cls := "ConstraintText$ClockTable", name := "open", desc := "(I)V" } : Jvm.MethodName)) ∈ gtb := tc_2 123 (by decide +kernel) rfl
theorem tw_437 : (Jvm.Cond.selects "ConstraintText$ClockTable" ({ cls := "ConstraintText$ClockTable", name := "open", desc := "(I)V" } : Jvm.MethodName) ({ cls := "ConstraintText$ClockTable", name := "open", desc := "(I)V" } : Jvm.MethodName)) ∈ gtb := tc_2 124 (by decide +kernel) rfl
theorem tw_438 : (Jvm.Cond.code ({ cls := "ConstraintText$ClockTable", name := "open", desc := "(I)V" } : Jvm.MethodName) prog_2_method_4_code (2 : Nat) (Option.none : Option Jvm.ClassFile.FieldType)) ∈ gtb := tc_2 125 (by decide +kernel) rfl
theorem tw_439 : (Jvm.Cond.methodLink "ConstraintText$Reader" (87 : Nat) ({ cls := "ConstraintText$Reader", name := "takeTimes", desc := "()Z" } : Jvm.MethodName)) ∈ gtb := tc_2 126 (by decide +kernel) rfl
theorem tw_441 : (Jvm.Cond.instanceMethod ({ cls := "ConstraintText$Reader", name := "takeTimes", desc := "()Z" } : Jvm.MethodName)) ∈ gtb := tc_2 128 (by decide +kernel) rfl
theorem tw_442 : (Jvm.Cond.code ({ cls := "ConstraintText$Reader", name := "takeTimes", desc := "()Z" } : Jvm.MethodName) prog_4_method_7_code (4 : Nat) (Option.some Jvm.ClassFile.FieldType.boolean)) ∈ gtb := tc_2 129 (by decide +kernel) rfl
theorem tw_443 : (Jvm.Cond.constant "ConstraintText$Reader" (108 : Nat) (999999 : Int32)) ∈ gtb := tc_2 130 (by decide +kernel) rfl
theorem tw_444 : (Jvm.Cond.methodLink "ConstraintText$Reader" (139 : Nat) ({ cls := "ConstraintText$Reader", name := "takeWhole", desc := "(II)I" } : Jvm.MethodName)) ∈ gtb := tc_2 131 (by decide +kernel) rfl
theorem tw_446 : (Jvm.Cond.instanceMethod ({ cls := "ConstraintText$Reader", name := "takeWhole", desc := "(II)I" } : Jvm.MethodName)) ∈ gtb := tc_2 133 (by decide +kernel) rfl
theorem tw_447 : (Jvm.Cond.code ({ cls := "ConstraintText$Reader", name := "takeWhole", desc := "(II)I" } : Jvm.MethodName) prog_4_method_11_code (4 : Nat) (Option.some Jvm.ClassFile.FieldType.int)) ∈ gtb := tc_2 134 (by decide +kernel) rfl
theorem tw_448 : (Jvm.Cond.methodLink "ConstraintText$Reader" (153 : Nat) ({ cls := "ConstraintText$Reader", name := "wholeInHand", desc := "()I" } : Jvm.MethodName)) ∈ gtb := tc_2 135 (by decide +kernel) rfl
theorem tw_450 : (Jvm.Cond.instanceMethod ({ cls := "ConstraintText$Reader", name := "wholeInHand", desc := "()I" } : Jvm.MethodName)) ∈ gtb := tc_2 137 (by decide +kernel) rfl
theorem tw_451 : (Jvm.Cond.code ({ cls := "ConstraintText$Reader", name := "wholeInHand", desc := "()I" } : Jvm.MethodName) prog_4_method_22_code (4 : Nat) (Option.some Jvm.ClassFile.FieldType.int)) ∈ gtb := tc_2 138 (by decide +kernel) rfl
theorem tw_453 : (Jvm.Cond.static ({ cls := "ConstraintText", name := "isDigit", desc := "(I)Z" } : Jvm.MethodName)) ∈ gtb := tc_2 140 (by decide +kernel) rfl
theorem tw_454 : (Jvm.Cond.code ({ cls := "ConstraintText", name := "isDigit", desc := "(I)Z" } : Jvm.MethodName) prog_1_method_18_code (1 : Nat) (Option.some Jvm.ClassFile.FieldType.boolean)) ∈ gtb := tc_2 141 (by decide +kernel) rfl
theorem tw_455 : (Jvm.Cond.methodLink "ConstraintText$Reader" (156 : Nat) ({ cls := "ConstraintText$Sheet", name := "printWhole", desc := "(I)V" } : Jvm.MethodName)) ∈ gtb := tc_2 142 (by decide +kernel) rfl
theorem tw_456 : (Jvm.Cond.instanceMethod ({ cls := "ConstraintText$Sheet", name := "printWhole", desc := "(I)V" } : Jvm.MethodName)) ∈ gtb := tc_2 143 (by decide +kernel) rfl
theorem tw_457 : (Jvm.Cond.selects "ConstraintText$Sheet" ({ cls := "ConstraintText$Sheet", name := "printWhole", desc := "(I)V" } : Jvm.MethodName) ({ cls := "ConstraintText$Sheet", name := "printWhole", desc := "(I)V" } : Jvm.MethodName)) ∈ gtb := tc_2 144 (by decide +kernel) rfl
theorem tw_458 : (Jvm.Cond.code ({ cls := "ConstraintText$Sheet", name := "printWhole", desc := "(I)V" } : Jvm.MethodName) prog_5_method_10_code (3 : Nat) (Option.none : Option Jvm.ClassFile.FieldType)) ∈ gtb := tc_2 145 (by decide +kernel) rfl
theorem tw_459 : (Jvm.Cond.methodLink "ConstraintText$Sheet" (68 : Nat) ({ cls := "ConstraintText$Sheet", name := "printGap", desc := "()V" } : Jvm.MethodName)) ∈ gtb := tc_2 146 (by decide +kernel) rfl
theorem tw_460 : (Jvm.Cond.constant "ConstraintText$Sheet" (71 : Nat) (100000 : Int32)) ∈ gtb := tc_2 147 (by decide +kernel) rfl
theorem tw_461 : (Jvm.Cond.methodLink "ConstraintText$Reader" (142 : Nat) ({ cls := "ConstraintText$ClockTable", name := "setTimes", desc := "(III)V" } : Jvm.MethodName)) ∈ gtb := tc_2 148 (by decide +kernel) rfl
theorem tw_462 : (Jvm.Cond.instanceMethod ({ cls := "ConstraintText$ClockTable", name := "setTimes", desc := "(III)V" } : Jvm.MethodName)) ∈ gtb := tc_2 149 (by decide +kernel) rfl
theorem tw_463 : (Jvm.Cond.selects "ConstraintText$ClockTable" ({ cls := "ConstraintText$ClockTable", name := "setTimes", desc := "(III)V" } : Jvm.MethodName) ({ cls := "ConstraintText$ClockTable", name := "setTimes", desc := "(III)V" } : Jvm.MethodName)) ∈ gtb := tc_2 150 (by decide +kernel) rfl
theorem tw_464 : (Jvm.Cond.code ({ cls := "ConstraintText$ClockTable", name := "setTimes", desc := "(III)V" } : Jvm.MethodName) prog_2_method_5_code (5 : Nat) (Option.none : Option Jvm.ClassFile.FieldType)) ∈ gtb := tc_2 151 (by decide +kernel) rfl
theorem tw_465 : (Jvm.Cond.methodLink "ConstraintText$ClockTable" (51 : Nat) ({ cls := "ConstraintText$ClockTable", name := "has", desc := "(I)Z" } : Jvm.MethodName)) ∈ gtb := tc_2 152 (by decide +kernel) rfl
theorem tw_466 : (Jvm.Cond.instanceMethod ({ cls := "ConstraintText$ClockTable", name := "has", desc := "(I)Z" } : Jvm.MethodName)) ∈ gtb := tc_2 153 (by decide +kernel) rfl
theorem tw_467 : (Jvm.Cond.selects "ConstraintText$ClockTable" ({ cls := "ConstraintText$ClockTable", name := "has", desc := "(I)Z" } : Jvm.MethodName) ({ cls := "ConstraintText$ClockTable", name := "has", desc := "(I)Z" } : Jvm.MethodName)) ∈ gtb := tc_2 154 (by decide +kernel) rfl
theorem tw_468 : (Jvm.Cond.code ({ cls := "ConstraintText$ClockTable", name := "has", desc := "(I)Z" } : Jvm.MethodName) prog_2_method_2_code (2 : Nat) (Option.some Jvm.ClassFile.FieldType.boolean)) ∈ gtb := tc_2 155 (by decide +kernel) rfl
theorem tw_469 : (Jvm.Cond.methodLink "ConstraintText$Reader" (90 : Nat) ({ cls := "ConstraintText$Reader", name := "takePattern", desc := "(I)Z" } : Jvm.MethodName)) ∈ gtb := tc_2 156 (by decide +kernel) rfl
theorem tw_471 : (Jvm.Cond.instanceMethod ({ cls := "ConstraintText$Reader", name := "takePattern", desc := "(I)Z" } : Jvm.MethodName)) ∈ gtb := tc_2 158 (by decide +kernel) rfl
theorem tw_472 : (Jvm.Cond.code ({ cls := "ConstraintText$Reader", name := "takePattern", desc := "(I)Z" } : Jvm.MethodName) prog_4_method_13_code (2 : Nat) (Option.some Jvm.ClassFile.FieldType.boolean)) ∈ gtb := tc_2 159 (by decide +kernel) rfl
theorem tw_473 : (Jvm.Cond.methodLink "ConstraintText$Reader" (162 : Nat) ({ cls := "ConstraintText$Reader", name := "keepPattern", desc := "(I)Z" } : Jvm.MethodName)) ∈ gtb := tc_2 160 (by decide +kernel) rfl
theorem tw_475 : (Jvm.Cond.instanceMethod ({ cls := "ConstraintText$Reader", name := "keepPattern", desc := "(I)Z" } : Jvm.MethodName)) ∈ gtb := tc_2 162 (by decide +kernel) rfl
theorem tw_476 : (Jvm.Cond.code ({ cls := "ConstraintText$Reader", name := "keepPattern", desc := "(I)Z" } : Jvm.MethodName) prog_4_method_14_code (2 : Nat) (Option.some Jvm.ClassFile.FieldType.boolean)) ∈ gtb := tc_2 163 (by decide +kernel) rfl
theorem tw_477 : (Jvm.Cond.methodLink "ConstraintText$Reader" (168 : Nat) ({ cls := "ConstraintText$Reader", name := "isPatternInHand", desc := "()Z" } : Jvm.MethodName)) ∈ gtb := tc_2 164 (by decide +kernel) rfl
theorem tw_479 : (Jvm.Cond.instanceMethod ({ cls := "ConstraintText$Reader", name := "isPatternInHand", desc := "()Z" } : Jvm.MethodName)) ∈ gtb := tc_2 166 (by decide +kernel) rfl
theorem tw_480 : (Jvm.Cond.code ({ cls := "ConstraintText$Reader", name := "isPatternInHand", desc := "()Z" } : Jvm.MethodName) prog_4_method_21_code (3 : Nat) (Option.some Jvm.ClassFile.FieldType.boolean)) ∈ gtb := tc_2 167 (by decide +kernel) rfl
theorem tw_482 : (Jvm.Cond.static ({ cls := "ConstraintText", name := "isNameUnit", desc := "(I)Z" } : Jvm.MethodName)) ∈ gtb := tc_2 169 (by decide +kernel) rfl
theorem tw_483 : (Jvm.Cond.code ({ cls := "ConstraintText", name := "isNameUnit", desc := "(I)Z" } : Jvm.MethodName) prog_1_method_19_code (1 : Nat) (Option.some Jvm.ClassFile.FieldType.boolean)) ∈ gtb := tc_2 170 (by decide +kernel) rfl
theorem tw_484 : (Jvm.Cond.methodLink "ConstraintText" (170 : Nat) ({ cls := "ConstraintText", name := "isSmallLetter", desc := "(I)Z" } : Jvm.MethodName)) ∈ gtb := tc_2 171 (by decide +kernel) rfl
theorem tw_485 : (Jvm.Cond.methodLink "ConstraintText" (173 : Nat) ({ cls := "ConstraintText", name := "isDigit", desc := "(I)Z" } : Jvm.MethodName)) ∈ gtb := tc_2 172 (by decide +kernel) rfl
theorem tw_486 : (Jvm.Cond.methodLink "ConstraintText$Reader" (171 : Nat) ({ cls := "ConstraintText$Sheet", name := "setPattern", desc := "(II)V" } : Jvm.MethodName)) ∈ gtb := tc_2 173 (by decide +kernel) rfl
theorem tw_487 : (Jvm.Cond.instanceMethod ({ cls := "ConstraintText$Sheet", name := "setPattern", desc := "(II)V" } : Jvm.MethodName)) ∈ gtb := tc_2 174 (by decide +kernel) rfl
theorem tw_488 : (Jvm.Cond.selects "ConstraintText$Sheet" ({ cls := "ConstraintText$Sheet", name := "setPattern", desc := "(II)V" } : Jvm.MethodName) ({ cls := "ConstraintText$Sheet", name := "setPattern", desc := "(II)V" } : Jvm.MethodName)) ∈ gtb := tc_2 175 (by decide +kernel) rfl
theorem tw_489 : (Jvm.Cond.code ({ cls := "ConstraintText$Sheet", name := "setPattern", desc := "(II)V" } : Jvm.MethodName) prog_5_method_5_code (4 : Nat) (Option.none : Option Jvm.ClassFile.FieldType)) ∈ gtb := tc_2 176 (by decide +kernel) rfl
theorem tw_490 : (Jvm.Cond.methodLink "ConstraintText$Sheet" (52 : Nat) ({ cls := "ConstraintText$Sheet", name := "patternOf", desc := "(II)I" } : Jvm.MethodName)) ∈ gtb := tc_2 177 (by decide +kernel) rfl
theorem tw_492 : (Jvm.Cond.instanceMethod ({ cls := "ConstraintText$Sheet", name := "patternOf", desc := "(II)I" } : Jvm.MethodName)) ∈ gtb := tc_2 179 (by decide +kernel) rfl
theorem tw_493 : (Jvm.Cond.code ({ cls := "ConstraintText$Sheet", name := "patternOf", desc := "(II)I" } : Jvm.MethodName) prog_5_method_6_code (4 : Nat) (Option.some Jvm.ClassFile.FieldType.int)) ∈ gtb := tc_2 180 (by decide +kernel) rfl
theorem tw_494 : (Jvm.Cond.methodLink "ConstraintText$Reader" (94 : Nat) ({ cls := "ConstraintText$Reader", name := "takeLink", desc := "(I)Z" } : Jvm.MethodName)) ∈ gtb := tc_2 181 (by decide +kernel) rfl
theorem tw_496 : (Jvm.Cond.instanceMethod ({ cls := "ConstraintText$Reader", name := "takeLink", desc := "(I)Z" } : Jvm.MethodName)) ∈ gtb := tc_2 183 (by decide +kernel) rfl
theorem tw_497 : (Jvm.Cond.code ({ cls := "ConstraintText$Reader", name := "takeLink", desc := "(I)Z" } : Jvm.MethodName) prog_4_method_8_code (3 : Nat) (Option.some Jvm.ClassFile.FieldType.boolean)) ∈ gtb := tc_2 184 (by decide +kernel) rfl
theorem tw_498 : (Jvm.Cond.methodLink "ConstraintText$Reader" (97 : Nat) ({ cls := "ConstraintText$Reader", name := "takeRatio", desc := "(Z)Z" } : Jvm.MethodName)) ∈ gtb := tc_2 185 (by decide +kernel) rfl
theorem tw_500 : (Jvm.Cond.instanceMethod ({ cls := "ConstraintText$Reader", name := "takeRatio", desc := "(Z)Z" } : Jvm.MethodName)) ∈ gtb := tc_2 187 (by decide +kernel) rfl
theorem tw_501 : (Jvm.Cond.code ({ cls := "ConstraintText$Reader", name := "takeRatio", desc := "(Z)Z" } : Jvm.MethodName) prog_4_method_9_code (4 : Nat) (Option.some Jvm.ClassFile.FieldType.boolean)) ∈ gtb := tc_2 188 (by decide +kernel) rfl
theorem tw_502 : (Jvm.Cond.methodLink "ConstraintText$Reader" (146 : Nat) ({ cls := "ConstraintText$ClockTable", name := "setRatio", desc := "(IIZ)V" } : Jvm.MethodName)) ∈ gtb := tc_2 189 (by decide +kernel) rfl
theorem tw_503 : (Jvm.Cond.instanceMethod ({ cls := "ConstraintText$ClockTable", name := "setRatio", desc := "(IIZ)V" } : Jvm.MethodName)) ∈ gtb := tc_2 190 (by decide +kernel) rfl
theorem tw_504 : (Jvm.Cond.selects "ConstraintText$ClockTable" ({ cls := "ConstraintText$ClockTable", name := "setRatio", desc := "(IIZ)V" } : Jvm.MethodName) ({ cls := "ConstraintText$ClockTable", name := "setRatio", desc := "(IIZ)V" } : Jvm.MethodName)) ∈ gtb := tc_2 191 (by decide +kernel) rfl
theorem tw_505 : (Jvm.Cond.code ({ cls := "ConstraintText$ClockTable", name := "setRatio", desc := "(IIZ)V" } : Jvm.MethodName) prog_2_method_6_code (5 : Nat) (Option.none : Option Jvm.ClassFile.FieldType)) ∈ gtb := tc_2 192 (by decide +kernel) rfl
theorem tw_506 : (Jvm.Cond.methodLink "ConstraintText$Reader" (101 : Nat) ({ cls := "ConstraintText$Reader", name := "takePath", desc := "()Z" } : Jvm.MethodName)) ∈ gtb := tc_2 193 (by decide +kernel) rfl
theorem tw_508 : (Jvm.Cond.instanceMethod ({ cls := "ConstraintText$Reader", name := "takePath", desc := "()Z" } : Jvm.MethodName)) ∈ gtb := tc_2 195 (by decide +kernel) rfl
theorem tw_509 : (Jvm.Cond.code ({ cls := "ConstraintText$Reader", name := "takePath", desc := "()Z" } : Jvm.MethodName) prog_4_method_12_code (2 : Nat) (Option.some Jvm.ClassFile.FieldType.boolean)) ∈ gtb := tc_2 196 (by decide +kernel) rfl
theorem tw_510 : (Jvm.Cond.methodLink "ConstraintText$Reader" (159 : Nat) ({ cls := "ConstraintText$Reader", name := "isAnyInHand", desc := "()Z" } : Jvm.MethodName)) ∈ gtb := tc_2 197 (by decide +kernel) rfl
theorem tw_512 : (Jvm.Cond.instanceMethod ({ cls := "ConstraintText$Reader", name := "isAnyInHand", desc := "()Z" } : Jvm.MethodName)) ∈ gtb := tc_2 199 (by decide +kernel) rfl
theorem tw_513 : (Jvm.Cond.code ({ cls := "ConstraintText$Reader", name := "isAnyInHand", desc := "()Z" } : Jvm.MethodName) prog_4_method_19_code (1 : Nat) (Option.some Jvm.ClassFile.FieldType.boolean)) ∈ gtb := tc_2 200 (by decide +kernel) rfl
theorem tw_514 : (Jvm.Cond.methodLink "ConstraintText$Reader" (165 : Nat) ({ cls := "ConstraintText$Sheet", name := "newestHasPattern", desc := "()Z" } : Jvm.MethodName)) ∈ gtb := tc_2 201 (by decide +kernel) rfl
theorem tw_515 : (Jvm.Cond.instanceMethod ({ cls := "ConstraintText$Sheet", name := "newestHasPattern", desc := "()Z" } : Jvm.MethodName)) ∈ gtb := tc_2 202 (by decide +kernel) rfl
theorem tw_516 : (Jvm.Cond.selects "ConstraintText$Sheet" ({ cls := "ConstraintText$Sheet", name := "newestHasPattern", desc := "()Z" } : Jvm.MethodName) ({ cls := "ConstraintText$Sheet", name := "newestHasPattern", desc := "()Z" } : Jvm.MethodName)) ∈ gtb := tc_2 203 (by decide +kernel) rfl
theorem tw_517 : (Jvm.Cond.code ({ cls := "ConstraintText$Sheet", name := "newestHasPattern", desc := "()Z" } : Jvm.MethodName) prog_5_method_7_code (2 : Nat) (Option.some Jvm.ClassFile.FieldType.boolean)) ∈ gtb := tc_2 204 (by decide +kernel) rfl
theorem tw_518 : (Jvm.Cond.methodLink "ConstraintText$Sheet" (56 : Nat) ({ cls := "ConstraintText$Sheet", name := "hasPattern", desc := "(II)Z" } : Jvm.MethodName)) ∈ gtb := tc_2 205 (by decide +kernel) rfl
theorem tw_520 : (Jvm.Cond.instanceMethod ({ cls := "ConstraintText$Sheet", name := "hasPattern", desc := "(II)Z" } : Jvm.MethodName)) ∈ gtb := tc_2 207 (by decide +kernel) rfl
theorem tw_521 : (Jvm.Cond.code ({ cls := "ConstraintText$Sheet", name := "hasPattern", desc := "(II)Z" } : Jvm.MethodName) prog_5_method_23_code (4 : Nat) (Option.some Jvm.ClassFile.FieldType.boolean)) ∈ gtb := tc_2 208 (by decide +kernel) rfl
theorem tw_522 : (Jvm.Cond.methodLink "ConstraintText$Reader" (104 : Nat) ({ cls := "ConstraintText$Reader", name := "takeValue", desc := "(II)Z" } : Jvm.MethodName)) ∈ gtb := tc_2 209 (by decide +kernel) rfl
theorem tw_524 : (Jvm.Cond.instanceMethod ({ cls := "ConstraintText$Reader", name := "takeValue", desc := "(II)Z" } : Jvm.MethodName)) ∈ gtb := tc_2 211 (by decide +kernel) rfl
theorem tw_525 : (Jvm.Cond.code ({ cls := "ConstraintText$Reader", name := "takeValue", desc := "(II)Z" } : Jvm.MethodName) prog_4_method_10_code (4 : Nat) (Option.some Jvm.ClassFile.FieldType.boolean)) ∈ gtb := tc_2 212 (by decide +kernel) rfl
theorem tw_526 : (Jvm.Cond.methodLink "ConstraintText$Reader" (150 : Nat) ({ cls := "ConstraintText$Sheet", name := "setValue", desc := "(I)V" } : Jvm.MethodName)) ∈ gtb := tc_2 213 (by decide +kernel) rfl
theorem tw_527 : (Jvm.Cond.instanceMethod ({ cls := "ConstraintText$Sheet", name := "setValue", desc := "(I)V" } : Jvm.MethodName)) ∈ gtb := tc_2 214 (by decide +kernel) rfl
theorem tw_528 : (Jvm.Cond.selects "ConstraintText$Sheet" ({ cls := "ConstraintText$Sheet", name := "setValue", desc := "(I)V" } : Jvm.MethodName) ({ cls := "ConstraintText$Sheet", name := "setValue", desc := "(I)V" } : Jvm.MethodName)) ∈ gtb := tc_2 215 (by decide +kernel) rfl
theorem tw_529 : (Jvm.Cond.code ({ cls := "ConstraintText$Sheet", name := "setValue", desc := "(I)V" } : Jvm.MethodName) prog_5_method_4_code (2 : Nat) (Option.none : Option Jvm.ClassFile.FieldType)) ∈ gtb := tc_2 216 (by decide +kernel) rfl
theorem tw_530 : (Jvm.Cond.methodLink "ConstraintText$Reader" (109 : Nat) ({ cls := "ConstraintText$Reader", name := "takeEnd", desc := "()Z" } : Jvm.MethodName)) ∈ gtb := tc_2 217 (by decide +kernel) rfl
theorem tw_532 : (Jvm.Cond.instanceMethod ({ cls := "ConstraintText$Reader", name := "takeEnd", desc := "()Z" } : Jvm.MethodName)) ∈ gtb := tc_2 219 (by decide +kernel) rfl
theorem tw_533 : (Jvm.Cond.code ({ cls := "ConstraintText$Reader", name := "takeEnd", desc := "()Z" } : Jvm.MethodName) prog_4_method_15_code (1 : Nat) (Option.some Jvm.ClassFile.FieldType.boolean)) ∈ gtb := tc_2 220 (by decide +kernel) rfl
theorem tw_534 : (Jvm.Cond.methodLink "ConstraintText$Reader" (64 : Nat) ({ cls := "ConstraintText$Reader", name := "bindLinks", desc := "()Z" } : Jvm.MethodName)) ∈ gtb := tc_2 221 (by decide +kernel) rfl
theorem tw_536 : (Jvm.Cond.instanceMethod ({ cls := "ConstraintText$Reader", name := "bindLinks", desc := "()Z" } : Jvm.MethodName)) ∈ gtb := tc_2 223 (by decide +kernel) rfl
theorem tw_537 : (Jvm.Cond.code ({ cls := "ConstraintText$Reader", name := "bindLinks", desc := "()Z" } : Jvm.MethodName) prog_4_method_25_code (3 : Nat) (Option.some Jvm.ClassFile.FieldType.boolean)) ∈ gtb := tc_2 224 (by decide +kernel) rfl
theorem tw_538 : (Jvm.Cond.methodLink "ConstraintText$Reader" (218 : Nat) ({ cls := "ConstraintText$Sheet", name := "linkOf", desc := "(II)I" } : Jvm.MethodName)) ∈ gtb := tc_2 225 (by decide +kernel) rfl
theorem tw_539 : (Jvm.Cond.instanceMethod ({ cls := "ConstraintText$Sheet", name := "linkOf", desc := "(II)I" } : Jvm.MethodName)) ∈ gtb := tc_2 226 (by decide +kernel) rfl
theorem tw_540 : (Jvm.Cond.selects "ConstraintText$Sheet" ({ cls := "ConstraintText$Sheet", name := "linkOf", desc := "(II)I" } : Jvm.MethodName) ({ cls := "ConstraintText$Sheet", name := "linkOf", desc := "(II)I" } : Jvm.MethodName)) ∈ gtb := tc_2 227 (by decide +kernel) rfl
theorem tw_541 : (Jvm.Cond.code ({ cls := "ConstraintText$Sheet", name := "linkOf", desc := "(II)I" } : Jvm.MethodName) prog_5_method_17_code (4 : Nat) (Option.some Jvm.ClassFile.FieldType.int)) ∈ gtb := tc_2 228 (by decide +kernel) rfl
theorem tw_542 : (Jvm.Cond.methodLink "ConstraintText$Reader" (67 : Nat) ({ cls := "ConstraintText$Reader", name := "hasNoRing", desc := "()Z" } : Jvm.MethodName)) ∈ gtb := tc_2 229 (by decide +kernel) rfl
theorem tw_544 : (Jvm.Cond.instanceMethod ({ cls := "ConstraintText$Reader", name := "hasNoRing", desc := "()Z" } : Jvm.MethodName)) ∈ gtb := tc_2 231 (by decide +kernel) rfl
theorem tw_545 : (Jvm.Cond.code ({ cls := "ConstraintText$Reader", name := "hasNoRing", desc := "()Z" } : Jvm.MethodName) prog_4_method_26_code (2 : Nat) (Option.some Jvm.ClassFile.FieldType.boolean)) ∈ gtb := tc_2 232 (by decide +kernel) rfl
theorem tw_546 : (Jvm.Cond.methodLink "ConstraintText$Reader" (221 : Nat) ({ cls := "ConstraintText$ClockTable", name := "inRing", desc := "(I)Z" } : Jvm.MethodName)) ∈ gtb := tc_2 233 (by decide +kernel) rfl
theorem tw_547 : (Jvm.Cond.instanceMethod ({ cls := "ConstraintText$ClockTable", name := "inRing", desc := "(I)Z" } : Jvm.MethodName)) ∈ gtb := tc_2 234 (by decide +kernel) rfl
theorem tw_548 : (Jvm.Cond.selects "ConstraintText$ClockTable" ({ cls := "ConstraintText$ClockTable", name := "inRing", desc := "(I)Z" } : Jvm.MethodName) ({ cls := "ConstraintText$ClockTable", name := "inRing", desc := "(I)Z" } : Jvm.MethodName)) ∈ gtb := tc_2 235 (by decide +kernel) rfl
theorem tw_549 : (Jvm.Cond.code ({ cls := "ConstraintText$ClockTable", name := "inRing", desc := "(I)Z" } : Jvm.MethodName) prog_2_method_7_code (4 : Nat) (Option.some Jvm.ClassFile.FieldType.boolean)) ∈ gtb := tc_2 236 (by decide +kernel) rfl
theorem tw_550 : (Jvm.Cond.methodLink "ConstraintText$Reader" (70 : Nat) ({ cls := "ConstraintText$Reader", name := "hasNoneGreat", desc := "()Z" } : Jvm.MethodName)) ∈ gtb := tc_2 237 (by decide +kernel) rfl
theorem tw_552 : (Jvm.Cond.instanceMethod ({ cls := "ConstraintText$Reader", name := "hasNoneGreat", desc := "()Z" } : Jvm.MethodName)) ∈ gtb := tc_2 239 (by decide +kernel) rfl
theorem tw_553 : (Jvm.Cond.code ({ cls := "ConstraintText$Reader", name := "hasNoneGreat", desc := "()Z" } : Jvm.MethodName) prog_4_method_27_code (2 : Nat) (Option.some Jvm.ClassFile.FieldType.boolean)) ∈ gtb := tc_3 0 (by decide +kernel) rfl
theorem tw_554 : (Jvm.Cond.methodLink "ConstraintText$Reader" (224 : Nat) ({ cls := "ConstraintText$ClockTable", name := "settleAll", desc := "()V" } : Jvm.MethodName)) ∈ gtb := tc_3 1 (by decide +kernel) rfl
theorem tw_555 : (Jvm.Cond.instanceMethod ({ cls := "ConstraintText$ClockTable", name := "settleAll", desc := "()V" } : Jvm.MethodName)) ∈ gtb := tc_3 2 (by decide +kernel) rfl
theorem tw_556 : (Jvm.Cond.selects "ConstraintText$ClockTable" ({ cls := "ConstraintText$ClockTable", name := "settleAll", desc := "()V" } : Jvm.MethodName) ({ cls := "ConstraintText$ClockTable", name := "settleAll", desc := "()V" } : Jvm.MethodName)) ∈ gtb := tc_3 3 (by decide +kernel) rfl
theorem tw_557 : (Jvm.Cond.code ({ cls := "ConstraintText$ClockTable", name := "settleAll", desc := "()V" } : Jvm.MethodName) prog_2_method_8_code (4 : Nat) (Option.none : Option Jvm.ClassFile.FieldType)) ∈ gtb := tc_3 4 (by decide +kernel) rfl
theorem tw_558 : (Jvm.Cond.methodLink "ConstraintText$ClockTable" (55 : Nat) ({ cls := "ConstraintText$ClockTable", name := "settle", desc := "(II)V" } : Jvm.MethodName)) ∈ gtb := tc_3 5 (by decide +kernel) rfl
theorem tw_560 : (Jvm.Cond.instanceMethod ({ cls := "ConstraintText$ClockTable", name := "settle", desc := "(II)V" } : Jvm.MethodName)) ∈ gtb := tc_3 7 (by decide +kernel) rfl
theorem tw_561 : (Jvm.Cond.code ({ cls := "ConstraintText$ClockTable", name := "settle", desc := "(II)V" } : Jvm.MethodName) prog_2_method_9_code (13 : Nat) (Option.none : Option Jvm.ClassFile.FieldType)) ∈ gtb := tc_3 8 (by decide +kernel) rfl
theorem tw_563 : (Jvm.Cond.static ({ cls := "ConstraintText", name := "commonDivisor", desc := "(JJ)J" } : Jvm.MethodName)) ∈ gtb := tc_3 10 (by decide +kernel) rfl
theorem tw_564 : (Jvm.Cond.code ({ cls := "ConstraintText", name := "commonDivisor", desc := "(JJ)J" } : Jvm.MethodName) prog_1_method_23_code (11 : Nat) (Option.some Jvm.ClassFile.FieldType.long)) ∈ gtb := tc_3 11 (by decide +kernel) rfl
theorem tw_565 : (Jvm.Cond.constantLong "ConstraintText$ClockTable" (63 : Nat) (1000000 : Int64)) ∈ gtb := tc_3 12 (by decide +kernel) rfl
theorem tw_566 : (Jvm.Cond.methodLink "ConstraintText" (73 : Nat) ({ cls := "ConstraintText$Tape", name := "wipe", desc := "()V" } : Jvm.MethodName)) ∈ gtb := tc_3 13 (by decide +kernel) rfl
theorem tw_567 : (Jvm.Cond.instanceMethod ({ cls := "ConstraintText$Tape", name := "wipe", desc := "()V" } : Jvm.MethodName)) ∈ gtb := tc_3 14 (by decide +kernel) rfl
theorem tw_568 : (Jvm.Cond.selects "ConstraintText$Tape" ({ cls := "ConstraintText$Tape", name := "wipe", desc := "()V" } : Jvm.MethodName) ({ cls := "ConstraintText$Tape", name := "wipe", desc := "()V" } : Jvm.MethodName)) ∈ gtb := tc_3 15 (by decide +kernel) rfl
theorem tw_569 : (Jvm.Cond.code ({ cls := "ConstraintText$Tape", name := "wipe", desc := "()V" } : Jvm.MethodName) prog_6_method_5_code (1 : Nat) (Option.none : Option Jvm.ClassFile.FieldType)) ∈ gtb := tc_3 16 (by decide +kernel) rfl
theorem tw_570 : (Jvm.Cond.methodLink "ConstraintText" (76 : Nat) ({ cls := "ConstraintText$Reader", name := "exchange", desc := "(LConstraintText$Sheet;)LConstraintText$Sheet;" } : Jvm.MethodName)) ∈ gtb := tc_3 17 (by decide +kernel) rfl
theorem tw_571 : (Jvm.Cond.instanceMethod ({ cls := "ConstraintText$Reader", name := "exchange", desc := "(LConstraintText$Sheet;)LConstraintText$Sheet;" } : Jvm.MethodName)) ∈ gtb := tc_3 18 (by decide +kernel) rfl
theorem tw_572 : (Jvm.Cond.selects "ConstraintText$Reader" ({ cls := "ConstraintText$Reader", name := "exchange", desc := "(LConstraintText$Sheet;)LConstraintText$Sheet;" } : Jvm.MethodName) ({ cls := "ConstraintText$Reader", name := "exchange", desc := "(LConstraintText$Sheet;)LConstraintText$Sheet;" } : Jvm.MethodName)) ∈ gtb := tc_3 19 (by decide +kernel) rfl
theorem tw_573 : (Jvm.Cond.code ({ cls := "ConstraintText$Reader", name := "exchange", desc := "(LConstraintText$Sheet;)LConstraintText$Sheet;" } : Jvm.MethodName) prog_4_method_2_code (3 : Nat) (Option.some (Jvm.ClassFile.FieldType.object "ConstraintText$Sheet"))) ∈ gtb := tc_3 20 (by decide +kernel) rfl
theorem tw_574 : (Jvm.Cond.methodLink "ConstraintText" (66 : Nat) ({ cls := "ConstraintText$Sheet", name := "matchPin", desc := "(LConstraintText$Pins;I)V" } : Jvm.MethodName)) ∈ gtb := tc_3 21 (by decide +kernel) rfl
theorem tw_575 : (Jvm.Cond.instanceMethod ({ cls := "ConstraintText$Sheet", name := "matchPin", desc := "(LConstraintText$Pins;I)V" } : Jvm.MethodName)) ∈ gtb := tc_3 22 (by decide +kernel) rfl
theorem tw_576 : (Jvm.Cond.selects "ConstraintText$Sheet" ({ cls := "ConstraintText$Sheet", name := "matchPin", desc := "(LConstraintText$Pins;I)V" } : Jvm.MethodName) ({ cls := "ConstraintText$Sheet", name := "matchPin", desc := "(LConstraintText$Pins;I)V" } : Jvm.MethodName)) ∈ gtb := tc_3 23 (by decide +kernel) rfl
theorem tw_577 : (Jvm.Cond.code ({ cls := "ConstraintText$Sheet", name := "matchPin", desc := "(LConstraintText$Pins;I)V" } : Jvm.MethodName) prog_5_method_13_code (6 : Nat) (Option.none : Option Jvm.ClassFile.FieldType)) ∈ gtb := tc_3 24 (by decide +kernel) rfl
theorem tw_578 : (Jvm.Cond.constantLong "ConstraintText$Sheet" (72 : Nat) (-1 : Int64)) ∈ gtb := tc_3 25 (by decide +kernel) rfl
theorem tw_579 : (Jvm.Cond.methodLink "ConstraintText$Sheet" (74 : Nat) ({ cls := "ConstraintText$Sheet", name := "fits", desc := "(ILConstraintText$Pins;I)Z" } : Jvm.MethodName)) ∈ gtb := tc_3 26 (by decide +kernel) rfl
theorem tw_581 : (Jvm.Cond.instanceMethod ({ cls := "ConstraintText$Sheet", name := "fits", desc := "(ILConstraintText$Pins;I)Z" } : Jvm.MethodName)) ∈ gtb := tc_3 28 (by decide +kernel) rfl
theorem tw_582 : (Jvm.Cond.code ({ cls := "ConstraintText$Sheet", name := "fits", desc := "(ILConstraintText$Pins;I)Z" } : Jvm.MethodName) prog_5_method_14_code (7 : Nat) (Option.some Jvm.ClassFile.FieldType.boolean)) ∈ gtb := tc_3 29 (by decide +kernel) rfl
theorem tw_583 : (Jvm.Cond.methodLink "ConstraintText$Sheet" (78 : Nat) ({ cls := "ConstraintText$Pins", name := "lengthOf", desc := "(I)I" } : Jvm.MethodName)) ∈ gtb := tc_3 30 (by decide +kernel) rfl
theorem tw_584 : (Jvm.Cond.instanceMethod ({ cls := "ConstraintText$Pins", name := "lengthOf", desc := "(I)I" } : Jvm.MethodName)) ∈ gtb := tc_3 31 (by decide +kernel) rfl
theorem tw_585 : (Jvm.Cond.selects "ConstraintText$Pins" ({ cls := "ConstraintText$Pins", name := "lengthOf", desc := "(I)I" } : Jvm.MethodName) ({ cls := "ConstraintText$Pins", name := "lengthOf", desc := "(I)I" } : Jvm.MethodName)) ∈ gtb := tc_3 32 (by decide +kernel) rfl
theorem tw_586 : (Jvm.Cond.code ({ cls := "ConstraintText$Pins", name := "lengthOf", desc := "(I)I" } : Jvm.MethodName) prog_3_method_4_code (2 : Nat) (Option.some Jvm.ClassFile.FieldType.int)) ∈ gtb := tc_3 33 (by decide +kernel) rfl
theorem tw_587 : (Jvm.Cond.methodLink "ConstraintText$Pins" (23 : Nat) ({ cls := "ConstraintText$Pins", name := "has", desc := "(I)Z" } : Jvm.MethodName)) ∈ gtb := tc_3 34 (by decide +kernel) rfl
theorem tw_588 : (Jvm.Cond.static ({ cls := "ConstraintText$Pins", name := "has", desc := "(I)Z" } : Jvm.MethodName)) ∈ gtb := tc_3 35 (by decide +kernel) rfl
theorem tw_589 : (Jvm.Cond.code ({ cls := "ConstraintText$Pins", name := "has", desc := "(I)Z" } : Jvm.MethodName) prog_3_method_2_code (1 : Nat) (Option.some Jvm.ClassFile.FieldType.boolean)) ∈ gtb := tc_3 36 (by decide +kernel) rfl
theorem tw_590 : (Jvm.Cond.methodLink "ConstraintText$Sheet" (83 : Nat) ({ cls := "ConstraintText$Sheet", name := "reachedByStars", desc := "(I)I" } : Jvm.MethodName)) ∈ gtb := tc_3 37 (by decide +kernel) rfl
theorem tw_592 : (Jvm.Cond.instanceMethod ({ cls := "ConstraintText$Sheet", name := "reachedByStars", desc := "(I)I" } : Jvm.MethodName)) ∈ gtb := tc_3 39 (by decide +kernel) rfl
theorem tw_593 : (Jvm.Cond.code ({ cls := "ConstraintText$Sheet", name := "reachedByStars", desc := "(I)I" } : Jvm.MethodName) prog_5_method_15_code (4 : Nat) (Option.some Jvm.ClassFile.FieldType.int)) ∈ gtb := tc_3 40 (by decide +kernel) rfl
theorem tw_594 : (Jvm.Cond.methodLink "ConstraintText$Sheet" (86 : Nat) ({ cls := "ConstraintText$Pins", name := "at", desc := "(II)C" } : Jvm.MethodName)) ∈ gtb := tc_3 41 (by decide +kernel) rfl
theorem tw_595 : (Jvm.Cond.instanceMethod ({ cls := "ConstraintText$Pins", name := "at", desc := "(II)C" } : Jvm.MethodName)) ∈ gtb := tc_3 42 (by decide +kernel) rfl
theorem tw_596 : (Jvm.Cond.selects "ConstraintText$Pins" ({ cls := "ConstraintText$Pins", name := "at", desc := "(II)C" } : Jvm.MethodName) ({ cls := "ConstraintText$Pins", name := "at", desc := "(II)C" } : Jvm.MethodName)) ∈ gtb := tc_3 43 (by decide +kernel) rfl
theorem tw_597 : (Jvm.Cond.code ({ cls := "ConstraintText$Pins", name := "at", desc := "(II)C" } : Jvm.MethodName) prog_3_method_5_code (3 : Nat) (Option.some Jvm.ClassFile.FieldType.char)) ∈ gtb := tc_3 44 (by decide +kernel) rfl
theorem tw_598 : (Jvm.Cond.methodLink "ConstraintText$Pins" (19 : Nat) ({ cls := "ConstraintText$Pins", name := "lengthOf", desc := "(I)I" } : Jvm.MethodName)) ∈ gtb := tc_3 45 (by decide +kernel) rfl
theorem tw_599 : (Jvm.Cond.methodLink "ConstraintText$Sheet" (90 : Nat) ({ cls := "ConstraintText$Sheet", name := "reachedBy", desc := "(III)I" } : Jvm.MethodName)) ∈ gtb := tc_3 46 (by decide +kernel) rfl
theorem tw_601 : (Jvm.Cond.instanceMethod ({ cls := "ConstraintText$Sheet", name := "reachedBy", desc := "(III)I" } : Jvm.MethodName)) ∈ gtb := tc_3 48 (by decide +kernel) rfl
theorem tw_602 : (Jvm.Cond.code ({ cls := "ConstraintText$Sheet", name := "reachedBy", desc := "(III)I" } : Jvm.MethodName) prog_5_method_16_code (8 : Nat) (Option.some Jvm.ClassFile.FieldType.int)) ∈ gtb := tc_3 49 (by decide +kernel) rfl
theorem tw_603 : (Jvm.Cond.arrayClass Jvm.ClassFile.FieldType.byte) ∈ gtb := tc_3 50 (by decide +kernel) rfl
theorem tw_604 : (Jvm.Cond.methodLink "ConstraintTextLaw" (62 : Nat) ({ cls := "ConstraintTextLaw", name := "name", desc := "(LConstraintText;II[J)I" } : Jvm.MethodName)) ∈ gtb := tc_3 51 (by decide +kernel) rfl
theorem tw_605 : (Jvm.Cond.static ({ cls := "ConstraintTextLaw", name := "name", desc := "(LConstraintText;II[J)I" } : Jvm.MethodName)) ∈ gtb := tc_3 52 (by decide +kernel) rfl
theorem tw_607 : (Jvm.Cond.classLink "ConstraintTextLaw" (13 : Nat) "java/lang/IndexOutOfBoundsException") ∈ gtb := tc_3 54 (by decide +kernel) rfl
theorem tw_608 : (Jvm.Cond.methodLink "ConstraintTextLaw" (7 : Nat) ({ cls := "ConstraintText", name := "name", desc := "(II)Z" } : Jvm.MethodName)) ∈ gtb := tc_3 55 (by decide +kernel) rfl
theorem tw_609 : (Jvm.Cond.instanceMethod ({ cls := "ConstraintText", name := "name", desc := "(II)Z" } : Jvm.MethodName)) ∈ gtb := tc_3 56 (by decide +kernel) rfl
theorem tw_610 : (Jvm.Cond.selects "ConstraintText" ({ cls := "ConstraintText", name := "name", desc := "(II)Z" } : Jvm.MethodName) ({ cls := "ConstraintText", name := "name", desc := "(II)Z" } : Jvm.MethodName)) ∈ gtb := tc_3 57 (by decide +kernel) rfl
theorem tw_611 : (Jvm.Cond.code ({ cls := "ConstraintText", name := "name", desc := "(II)Z" } : Jvm.MethodName) prog_1_method_4_code (3 : Nat) (Option.some Jvm.ClassFile.FieldType.boolean)) ∈ gtb := tc_3 58 (by decide +kernel) rfl
theorem tw_612 : (Jvm.Cond.methodLink "ConstraintText" (49 : Nat) ({ cls := "ConstraintText$Pins", name := "has", desc := "(I)Z" } : Jvm.MethodName)) ∈ gtb := tc_3 59 (by decide +kernel) rfl
theorem tw_613 : (Jvm.Cond.classLink "ConstraintText" (52 : Nat) "java/lang/IndexOutOfBoundsException") ∈ gtb := tc_3 60 (by decide +kernel) rfl
theorem tw_614 : (Jvm.Cond.instantiable "java/lang/IndexOutOfBoundsException" (6 : Nat)) ∈ gtb := tc_3 61 (by decide +kernel) rfl
theorem tw_622 : (Jvm.Cond.selects "java/lang/IndexOutOfBoundsException" ({ cls := "java/lang/Throwable", name := "fillInStackTrace", desc := "(I)Ljava/lang/Throwable;" } : Jvm.MethodName) ({ cls := "java/lang/Throwable", name := "fillInStackTrace", desc := "(I)Ljava/lang/Throwable;" } : Jvm.MethodName)) ∈ gtb := tc_3 69 (by decide +kernel) rfl
theorem tw_623 : (Jvm.Cond.selects "java/lang/IndexOutOfBoundsException" ({ cls := "java/lang/Throwable", name := "fillInStackTrace", desc := "()Ljava/lang/Throwable;" } : Jvm.MethodName) ({ cls := "java/lang/Throwable", name := "fillInStackTrace", desc := "()Ljava/lang/Throwable;" } : Jvm.MethodName)) ∈ gtb := tc_3 70 (by decide +kernel) rfl
theorem tw_624 : (Jvm.Cond.lays "java/lang/IndexOutOfBoundsException" "java/lang/Throwable" "cause" "Ljava/lang/Throwable;") ∈ gtb := tc_3 71 (by decide +kernel) rfl
theorem tw_625 : (Jvm.Cond.lays "java/lang/Throwable" "java/lang/Throwable" "cause" "Ljava/lang/Throwable;") ∈ gtb := tc_3 72 (by decide +kernel) rfl
theorem tw_626 : (Jvm.Cond.lays "java/lang/IndexOutOfBoundsException" "java/lang/Throwable" "stackTrace" "[Ljava/lang/StackTraceElement;") ∈ gtb := tc_3 73 (by decide +kernel) rfl
theorem tw_627 : (Jvm.Cond.lays "java/lang/Throwable" "java/lang/Throwable" "stackTrace" "[Ljava/lang/StackTraceElement;") ∈ gtb := tc_3 74 (by decide +kernel) rfl
theorem tw_628 : (Jvm.Cond.lays "java/lang/IndexOutOfBoundsException" "java/lang/Throwable" "suppressedExceptions" "Ljava/util/List;") ∈ gtb := tc_3 75 (by decide +kernel) rfl
theorem tw_629 : (Jvm.Cond.lays "java/lang/Throwable" "java/lang/Throwable" "suppressedExceptions" "Ljava/util/List;") ∈ gtb := tc_3 76 (by decide +kernel) rfl
theorem tw_630 : (Jvm.Cond.lays "java/lang/IndexOutOfBoundsException" "java/lang/Throwable" "detailMessage" "Ljava/lang/String;") ∈ gtb := tc_3 77 (by decide +kernel) rfl
theorem tw_631 : (Jvm.Cond.lays "java/lang/Throwable" "java/lang/Throwable" "detailMessage" "Ljava/lang/String;") ∈ gtb := tc_3 78 (by decide +kernel) rfl
theorem tw_632 : (Jvm.Cond.lays "java/lang/IndexOutOfBoundsException" "java/lang/Throwable" "backtrace" "Ljava/lang/Object;") ∈ gtb := tc_3 79 (by decide +kernel) rfl
theorem tw_633 : (Jvm.Cond.lays "java/lang/Throwable" "java/lang/Throwable" "backtrace" "Ljava/lang/Object;") ∈ gtb := tc_3 80 (by decide +kernel) rfl
theorem tw_634 : (Jvm.Cond.fieldLink "java/lang/Throwable" (198 : Nat) "java/lang/Throwable" "backtrace" "Ljava/lang/Object;") ∈ gtb := tc_3 81 (by decide +kernel) rfl
theorem tw_635 : (Jvm.Cond.superclass "java/lang/Throwable" "java/lang/Object") ∈ gtb := tc_3 82 (by decide +kernel) rfl
theorem tw_636 : (Jvm.Cond.instanceMethod ({ cls := "java/lang/Throwable", name := "<init>", desc := "()V" } : Jvm.MethodName)) ∈ gtb := tc_3 83 (by decide +kernel) rfl
theorem tw_637 : (Jvm.Cond.code ({ cls := "java/lang/Throwable", name := "<init>", desc := "()V" } : Jvm.MethodName) prog_17_method_1_code (1 : Nat) (Option.none : Option Jvm.ClassFile.FieldType)) ∈ gtb := tc_3 84 (by decide +kernel) rfl
theorem tw_638 : (Jvm.Cond.methodLink "java/lang/Throwable" (1 : Nat) ({ cls := "java/lang/Object", name := "<init>", desc := "()V" } : Jvm.MethodName)) ∈ gtb := tc_3 85 (by decide +kernel) rfl
theorem tw_639 : (Jvm.Cond.fieldLink "java/lang/Throwable" (13 : Nat) "java/lang/Throwable" "UNASSIGNED_STACK" "[Ljava/lang/StackTraceElement;") ∈ gtb := tc_3 86 (by decide +kernel) rfl
theorem tw_641 : (Jvm.Cond.fieldLink "java/lang/Throwable" (20 : Nat) "java/lang/Throwable" "SUPPRESSED_SENTINEL" "Ljava/util/List;") ∈ gtb := tc_3 88 (by decide +kernel) rfl
theorem tw_643 : (Jvm.Cond.methodLink "java/lang/Throwable" (27 : Nat) ({ cls := "java/lang/Throwable", name := "fillInStackTrace", desc := "()Ljava/lang/Throwable;" } : Jvm.MethodName)) ∈ gtb := tc_3 90 (by decide +kernel) rfl
theorem tw_644 : (Jvm.Cond.instanceMethod ({ cls := "java/lang/Throwable", name := "fillInStackTrace", desc := "()Ljava/lang/Throwable;" } : Jvm.MethodName)) ∈ gtb := tc_3 91 (by decide +kernel) rfl
theorem tw_645 : (Jvm.Cond.sameMethod "java/lang/Throwable" "java/lang/Throwable" "fillInStackTrace" "()Ljava/lang/Throwable;") ∈ gtb := tc_3 92 (by decide +kernel) rfl
theorem tw_646 : (Jvm.Cond.codeSync ({ cls := "java/lang/Throwable", name := "fillInStackTrace", desc := "()Ljava/lang/Throwable;" } : Jvm.MethodName) prog_17_method_18_code (1 : Nat) (Option.some (Jvm.ClassFile.FieldType.object "java/lang/Throwable"))) ∈ gtb := tc_3 93 (by decide +kernel) rfl
theorem tw_647 : (Jvm.Cond.methodLink "java/lang/Throwable" (202 : Nat) ({ cls := "java/lang/Throwable", name := "fillInStackTrace", desc := "(I)Ljava/lang/Throwable;" } : Jvm.MethodName)) ∈ gtb := tc_3 94 (by decide +kernel) rfl
theorem tw_649 : (Jvm.Cond.instanceMethod ({ cls := "java/lang/Throwable", name := "fillInStackTrace", desc := "(I)Ljava/lang/Throwable;" } : Jvm.MethodName)) ∈ gtb := tc_3 96 (by decide +kernel) rfl
theorem tw_650 : (Jvm.Cond.instantiable "java/lang/Throwable" (6 : Nat)) ∈ gtb := tc_3 97 (by decide +kernel) rfl
theorem tw_651 : (Jvm.Cond.native ({ cls := "java/lang/Throwable", name := "fillInStackTrace", desc := "(I)Ljava/lang/Throwable;" } : Jvm.MethodName)) ∈ gtb := tc_3 98 (by decide +kernel) rfl
theorem tw_653 : (Jvm.Cond.methodLink "ConstraintText" (56 : Nat) ({ cls := "java/lang/IndexOutOfBoundsException", name := "<init>", desc := "(Ljava/lang/String;)V" } : Jvm.MethodName)) ∈ gtb := tc_3 100 (by decide +kernel) rfl
theorem tw_654 : (Jvm.Cond.instanceMethod ({ cls := "java/lang/IndexOutOfBoundsException", name := "<init>", desc := "(Ljava/lang/String;)V" } : Jvm.MethodName)) ∈ gtb := tc_3 101 (by decide +kernel) rfl
theorem tw_655 : (Jvm.Cond.code ({ cls := "java/lang/IndexOutOfBoundsException", name := "<init>", desc := "(Ljava/lang/String;)V" } : Jvm.MethodName) prog_10_method_2_code (2 : Nat) (Option.none : Option Jvm.ClassFile.FieldType)) ∈ gtb := tc_3 102 (by decide +kernel) rfl
theorem tw_656 : (Jvm.Cond.methodLink "java/lang/IndexOutOfBoundsException" (7 : Nat) ({ cls := "java/lang/RuntimeException", name := "<init>", desc := "(Ljava/lang/String;)V" } : Jvm.MethodName)) ∈ gtb := tc_3 103 (by decide +kernel) rfl
theorem tw_657 : (Jvm.Cond.instanceMethod ({ cls := "java/lang/RuntimeException", name := "<init>", desc := "(Ljava/lang/String;)V" } : Jvm.MethodName)) ∈ gtb := tc_3 104 (by decide +kernel) rfl
theorem tw_658 : (Jvm.Cond.code ({ cls := "java/lang/RuntimeException", name := "<init>", desc := "(Ljava/lang/String;)V" } : Jvm.MethodName) prog_13_method_2_code (2 : Nat) (Option.none : Option Jvm.ClassFile.FieldType)) ∈ gtb := tc_3 105 (by decide +kernel) rfl
theorem tw_659 : (Jvm.Cond.methodLink "java/lang/RuntimeException" (7 : Nat) ({ cls := "java/lang/Exception", name := "<init>", desc := "(Ljava/lang/String;)V" } : Jvm.MethodName)) ∈ gtb := tc_3 106 (by decide +kernel) rfl
theorem tw_660 : (Jvm.Cond.instanceMethod ({ cls := "java/lang/Exception", name := "<init>", desc := "(Ljava/lang/String;)V" } : Jvm.MethodName)) ∈ gtb := tc_3 107 (by decide +kernel) rfl
theorem tw_661 : (Jvm.Cond.code ({ cls := "java/lang/Exception", name := "<init>", desc := "(Ljava/lang/String;)V" } : Jvm.MethodName) prog_9_method_2_code (2 : Nat) (Option.none : Option Jvm.ClassFile.FieldType)) ∈ gtb := tc_3 108 (by decide +kernel) rfl
theorem tw_662 : (Jvm.Cond.methodLink "java/lang/Exception" (7 : Nat) ({ cls := "java/lang/Throwable", name := "<init>", desc := "(Ljava/lang/String;)V" } : Jvm.MethodName)) ∈ gtb := tc_3 109 (by decide +kernel) rfl
theorem tw_663 : (Jvm.Cond.instanceMethod ({ cls := "java/lang/Throwable", name := "<init>", desc := "(Ljava/lang/String;)V" } : Jvm.MethodName)) ∈ gtb := tc_3 110 (by decide +kernel) rfl
theorem tw_664 : (Jvm.Cond.code ({ cls := "java/lang/Throwable", name := "<init>", desc := "(Ljava/lang/String;)V" } : Jvm.MethodName) prog_17_method_2_code (2 : Nat) (Option.none : Option Jvm.ClassFile.FieldType)) ∈ gtb := tc_3 111 (by decide +kernel) rfl
theorem tw_666 : (Jvm.Cond.fieldLink "java/lang/Throwable" (31 : Nat) "java/lang/Throwable" "detailMessage" "Ljava/lang/String;") ∈ gtb := tc_3 113 (by decide +kernel) rfl
theorem tw_667 : (Jvm.Cond.fieldLink "java/lang/Throwable" (7 : Nat) "java/lang/Throwable" "cause" "Ljava/lang/Throwable;") ∈ gtb := tc_3 114 (by decide +kernel) rfl
theorem tw_668 : (Jvm.Cond.fieldLink "java/lang/Throwable" (17 : Nat) "java/lang/Throwable" "stackTrace" "[Ljava/lang/StackTraceElement;") ∈ gtb := tc_3 115 (by decide +kernel) rfl
theorem tw_669 : (Jvm.Cond.fieldLink "java/lang/Throwable" (24 : Nat) "java/lang/Throwable" "suppressedExceptions" "Ljava/util/List;") ∈ gtb := tc_3 116 (by decide +kernel) rfl
theorem tw_674 : (Jvm.Cond.lays "java/lang/IndexOutOfBoundsException" "java/lang/Throwable" "depth" "I") ∈ gtb := tc_3 121 (by decide +kernel) rfl
theorem tw_677 : (Jvm.Cond.superclass "java/lang/IndexOutOfBoundsException" "java/lang/RuntimeException") ∈ gtb := tc_3 124 (by decide +kernel) rfl
theorem tw_678 : (Jvm.Cond.methodLink "ConstraintText" (59 : Nat) ({ cls := "ConstraintText", name := "isNameUnit", desc := "(I)Z" } : Jvm.MethodName)) ∈ gtb := tc_3 125 (by decide +kernel) rfl
theorem tw_679 : (Jvm.Cond.methodLink "ConstraintText" (62 : Nat) ({ cls := "ConstraintText$Pins", name := "grow", desc := "(II)Z" } : Jvm.MethodName)) ∈ gtb := tc_3 126 (by decide +kernel) rfl
theorem tw_680 : (Jvm.Cond.instanceMethod ({ cls := "ConstraintText$Pins", name := "grow", desc := "(II)Z" } : Jvm.MethodName)) ∈ gtb := tc_3 127 (by decide +kernel) rfl
theorem tw_681 : (Jvm.Cond.selects "ConstraintText$Pins" ({ cls := "ConstraintText$Pins", name := "grow", desc := "(II)Z" } : Jvm.MethodName) ({ cls := "ConstraintText$Pins", name := "grow", desc := "(II)Z" } : Jvm.MethodName)) ∈ gtb := tc_3 128 (by decide +kernel) rfl
theorem tw_682 : (Jvm.Cond.code ({ cls := "ConstraintText$Pins", name := "grow", desc := "(II)Z" } : Jvm.MethodName) prog_3_method_3_code (4 : Nat) (Option.some Jvm.ClassFile.FieldType.boolean)) ∈ gtb := tc_3 129 (by decide +kernel) rfl
theorem tw_683 : (Jvm.Cond.methodLink "ConstraintTextLaw" (76 : Nat) ({ cls := "ConstraintTextLaw", name := "clock", desc := "(LConstraintText;II[J)I" } : Jvm.MethodName)) ∈ gtb := tc_3 130 (by decide +kernel) rfl
theorem tw_684 : (Jvm.Cond.static ({ cls := "ConstraintTextLaw", name := "clock", desc := "(LConstraintText;II[J)I" } : Jvm.MethodName)) ∈ gtb := tc_3 131 (by decide +kernel) rfl
theorem tw_686 : (Jvm.Cond.methodLink "ConstraintTextLaw" (15 : Nat) ({ cls := "ConstraintText", name := "clock", desc := "(II)I" } : Jvm.MethodName)) ∈ gtb := tc_3 133 (by decide +kernel) rfl
theorem tw_687 : (Jvm.Cond.instanceMethod ({ cls := "ConstraintText", name := "clock", desc := "(II)I" } : Jvm.MethodName)) ∈ gtb := tc_3 134 (by decide +kernel) rfl
theorem tw_688 : (Jvm.Cond.selects "ConstraintText" ({ cls := "ConstraintText", name := "clock", desc := "(II)I" } : Jvm.MethodName) ({ cls := "ConstraintText", name := "clock", desc := "(II)I" } : Jvm.MethodName)) ∈ gtb := tc_3 135 (by decide +kernel) rfl
theorem tw_689 : (Jvm.Cond.code ({ cls := "ConstraintText", name := "clock", desc := "(II)I" } : Jvm.MethodName) prog_1_method_6_code (3 : Nat) (Option.some Jvm.ClassFile.FieldType.int)) ∈ gtb := tc_3 136 (by decide +kernel) rfl
theorem tw_690 : (Jvm.Cond.methodLink "ConstraintText" (88 : Nat) ({ cls := "ConstraintText$ClockTable", name := "has", desc := "(I)Z" } : Jvm.MethodName)) ∈ gtb := tc_3 137 (by decide +kernel) rfl
theorem tw_692 : (Jvm.Cond.methodLink "ConstraintText" (97 : Nat) ({ cls := "ConstraintText$Sheet", name := "hitsOf", desc := "(II)J" } : Jvm.MethodName)) ∈ gtb := tc_3 139 (by decide +kernel) rfl
theorem tw_693 : (Jvm.Cond.instanceMethod ({ cls := "ConstraintText$Sheet", name := "hitsOf", desc := "(II)J" } : Jvm.MethodName)) ∈ gtb := tc_3 140 (by decide +kernel) rfl
theorem tw_694 : (Jvm.Cond.selects "ConstraintText$Sheet" ({ cls := "ConstraintText$Sheet", name := "hitsOf", desc := "(II)J" } : Jvm.MethodName) ({ cls := "ConstraintText$Sheet", name := "hitsOf", desc := "(II)J" } : Jvm.MethodName)) ∈ gtb := tc_3 141 (by decide +kernel) rfl
theorem tw_695 : (Jvm.Cond.code ({ cls := "ConstraintText$Sheet", name := "hitsOf", desc := "(II)J" } : Jvm.MethodName) prog_5_method_12_code (4 : Nat) (Option.some Jvm.ClassFile.FieldType.long)) ∈ gtb := tc_3 142 (by decide +kernel) rfl
theorem tw_696 : (Jvm.Cond.methodLink "ConstraintText" (101 : Nat) ({ cls := "java/lang/Long", name := "bitCount", desc := "(J)I" } : Jvm.MethodName)) ∈ gtb := tc_3 143 (by decide +kernel) rfl
theorem tw_697 : (Jvm.Cond.static ({ cls := "java/lang/Long", name := "bitCount", desc := "(J)I" } : Jvm.MethodName)) ∈ gtb := tc_3 144 (by decide +kernel) rfl
theorem tw_698 : (Jvm.Cond.code ({ cls := "java/lang/Long", name := "bitCount", desc := "(J)I" } : Jvm.MethodName) prog_11_method_50_code (2 : Nat) (Option.some Jvm.ClassFile.FieldType.int)) ∈ gtb := tc_3 145 (by decide +kernel) rfl
theorem tw_699 : (Jvm.Cond.constantLong "java/lang/Long" (314 : Nat) (6148914691236517205 : Int64)) ∈ gtb := tc_3 146 (by decide +kernel) rfl
theorem tw_700 : (Jvm.Cond.constantLong "java/lang/Long" (316 : Nat) (3689348814741910323 : Int64)) ∈ gtb := tc_3 147 (by decide +kernel) rfl
theorem tw_701 : (Jvm.Cond.constantLong "java/lang/Long" (318 : Nat) (1085102592571150095 : Int64)) ∈ gtb := tc_3 148 (by decide +kernel) rfl
theorem tw_702 : (Jvm.Cond.methodLink "ConstraintText" (107 : Nat) ({ cls := "ConstraintText$ClockTable", name := "fact", desc := "(II)I" } : Jvm.MethodName)) ∈ gtb := tc_3 149 (by decide +kernel) rfl
theorem tw_703 : (Jvm.Cond.instanceMethod ({ cls := "ConstraintText$ClockTable", name := "fact", desc := "(II)I" } : Jvm.MethodName)) ∈ gtb := tc_3 150 (by decide +kernel) rfl
theorem tw_704 : (Jvm.Cond.selects "ConstraintText$ClockTable" ({ cls := "ConstraintText$ClockTable", name := "fact", desc := "(II)I" } : Jvm.MethodName) ({ cls := "ConstraintText$ClockTable", name := "fact", desc := "(II)I" } : Jvm.MethodName)) ∈ gtb := tc_3 151 (by decide +kernel) rfl
theorem tw_705 : (Jvm.Cond.code ({ cls := "ConstraintText$ClockTable", name := "fact", desc := "(II)I" } : Jvm.MethodName) prog_2_method_10_code (3 : Nat) (Option.some Jvm.ClassFile.FieldType.int)) ∈ gtb := tc_3 152 (by decide +kernel) rfl
theorem tw_706 : (Jvm.Cond.methodLink "ConstraintTextLaw" (79 : Nat) ({ cls := "ConstraintTextLaw", name := "edge", desc := "(LConstraintText;III[J)I" } : Jvm.MethodName)) ∈ gtb := tc_3 153 (by decide +kernel) rfl
theorem tw_707 : (Jvm.Cond.static ({ cls := "ConstraintTextLaw", name := "edge", desc := "(LConstraintText;III[J)I" } : Jvm.MethodName)) ∈ gtb := tc_3 154 (by decide +kernel) rfl
theorem tw_709 : (Jvm.Cond.methodLink "ConstraintTextLaw" (19 : Nat) ({ cls := "ConstraintText", name := "edge", desc := "(III)J" } : Jvm.MethodName)) ∈ gtb := tc_3 156 (by decide +kernel) rfl
theorem tw_710 : (Jvm.Cond.instanceMethod ({ cls := "ConstraintText", name := "edge", desc := "(III)J" } : Jvm.MethodName)) ∈ gtb := tc_3 157 (by decide +kernel) rfl
theorem tw_711 : (Jvm.Cond.selects "ConstraintText" ({ cls := "ConstraintText", name := "edge", desc := "(III)J" } : Jvm.MethodName) ({ cls := "ConstraintText", name := "edge", desc := "(III)J" } : Jvm.MethodName)) ∈ gtb := tc_3 158 (by decide +kernel) rfl
theorem tw_712 : (Jvm.Cond.code ({ cls := "ConstraintText", name := "edge", desc := "(III)J" } : Jvm.MethodName) prog_1_method_7_code (4 : Nat) (Option.some Jvm.ClassFile.FieldType.long)) ∈ gtb := tc_3 159 (by decide +kernel) rfl
theorem tw_714 : (Jvm.Cond.methodLink "ConstraintText" (113 : Nat) ({ cls := "ConstraintText$ClockTable", name := "edgePart", desc := "(III)J" } : Jvm.MethodName)) ∈ gtb := tc_3 161 (by decide +kernel) rfl
theorem tw_715 : (Jvm.Cond.instanceMethod ({ cls := "ConstraintText$ClockTable", name := "edgePart", desc := "(III)J" } : Jvm.MethodName)) ∈ gtb := tc_3 162 (by decide +kernel) rfl
theorem tw_716 : (Jvm.Cond.selects "ConstraintText$ClockTable" ({ cls := "ConstraintText$ClockTable", name := "edgePart", desc := "(III)J" } : Jvm.MethodName) ({ cls := "ConstraintText$ClockTable", name := "edgePart", desc := "(III)J" } : Jvm.MethodName)) ∈ gtb := tc_3 163 (by decide +kernel) rfl
theorem tw_717 : (Jvm.Cond.code ({ cls := "ConstraintText$ClockTable", name := "edgePart", desc := "(III)J" } : Jvm.MethodName) prog_2_method_11_code (8 : Nat) (Option.some Jvm.ClassFile.FieldType.long)) ∈ gtb := tc_3 164 (by decide +kernel) rfl
theorem tw_718 : (Jvm.Cond.constantLong "ConstraintText$ClockTable" (65 : Nat) (-1 : Int64)) ∈ gtb := tc_3 165 (by decide +kernel) rfl
theorem tw_720 : (Jvm.Cond.static ({ cls := "ConstraintText", name := "lowestPart", desc := "(JJI)J" } : Jvm.MethodName)) ∈ gtb := tc_3 167 (by decide +kernel) rfl
theorem tw_721 : (Jvm.Cond.code ({ cls := "ConstraintText", name := "lowestPart", desc := "(JJI)J" } : Jvm.MethodName) prog_1_method_24_code (7 : Nat) (Option.some Jvm.ClassFile.FieldType.long)) ∈ gtb := tc_3 168 (by decide +kernel) rfl
theorem tw_722 : (Jvm.Cond.methodLink "ConstraintText" (196 : Nat) ({ cls := "ConstraintText", name := "commonDivisor", desc := "(JJ)J" } : Jvm.MethodName)) ∈ gtb := tc_3 169 (by decide +kernel) rfl
theorem tw_723 : (Jvm.Cond.methodLink "ConstraintTextLaw" (83 : Nat) ({ cls := "ConstraintTextLaw", name := "distance", desc := "(LConstraintText;III[J)I" } : Jvm.MethodName)) ∈ gtb := tc_3 170 (by decide +kernel) rfl
theorem tw_724 : (Jvm.Cond.static ({ cls := "ConstraintTextLaw", name := "distance", desc := "(LConstraintText;III[J)I" } : Jvm.MethodName)) ∈ gtb := tc_3 171 (by decide +kernel) rfl
theorem tw_726 : (Jvm.Cond.methodLink "ConstraintTextLaw" (23 : Nat) ({ cls := "ConstraintText", name := "distance", desc := "(III)J" } : Jvm.MethodName)) ∈ gtb := tc_3 173 (by decide +kernel) rfl
theorem tw_727 : (Jvm.Cond.instanceMethod ({ cls := "ConstraintText", name := "distance", desc := "(III)J" } : Jvm.MethodName)) ∈ gtb := tc_3 174 (by decide +kernel) rfl
theorem tw_728 : (Jvm.Cond.selects "ConstraintText" ({ cls := "ConstraintText", name := "distance", desc := "(III)J" } : Jvm.MethodName) ({ cls := "ConstraintText", name := "distance", desc := "(III)J" } : Jvm.MethodName)) ∈ gtb := tc_3 175 (by decide +kernel) rfl
theorem tw_729 : (Jvm.Cond.code ({ cls := "ConstraintText", name := "distance", desc := "(III)J" } : Jvm.MethodName) prog_1_method_8_code (4 : Nat) (Option.some Jvm.ClassFile.FieldType.long)) ∈ gtb := tc_3 176 (by decide +kernel) rfl
theorem tw_731 : (Jvm.Cond.methodLink "ConstraintText" (119 : Nat) ({ cls := "ConstraintText$Sheet", name := "saysApart", desc := "(II)Z" } : Jvm.MethodName)) ∈ gtb := tc_3 178 (by decide +kernel) rfl
theorem tw_732 : (Jvm.Cond.instanceMethod ({ cls := "ConstraintText$Sheet", name := "saysApart", desc := "(II)Z" } : Jvm.MethodName)) ∈ gtb := tc_3 179 (by decide +kernel) rfl
theorem tw_733 : (Jvm.Cond.selects "ConstraintText$Sheet" ({ cls := "ConstraintText$Sheet", name := "saysApart", desc := "(II)Z" } : Jvm.MethodName) ({ cls := "ConstraintText$Sheet", name := "saysApart", desc := "(II)Z" } : Jvm.MethodName)) ∈ gtb := tc_3 180 (by decide +kernel) rfl
theorem tw_734 : (Jvm.Cond.code ({ cls := "ConstraintText$Sheet", name := "saysApart", desc := "(II)Z" } : Jvm.MethodName) prog_5_method_18_code (6 : Nat) (Option.some Jvm.ClassFile.FieldType.boolean)) ∈ gtb := tc_3 181 (by decide +kernel) rfl
theorem tw_735 : (Jvm.Cond.methodLink "ConstraintText$Sheet" (94 : Nat) ({ cls := "ConstraintText$Sheet", name := "linkOf", desc := "(II)I" } : Jvm.MethodName)) ∈ gtb := tc_3 182 (by decide +kernel) rfl
theorem tw_736 : (Jvm.Cond.methodLink "ConstraintText" (122 : Nat) ({ cls := "ConstraintText$ClockTable", name := "distancePart", desc := "(III)J" } : Jvm.MethodName)) ∈ gtb := tc_3 183 (by decide +kernel) rfl
theorem tw_737 : (Jvm.Cond.instanceMethod ({ cls := "ConstraintText$ClockTable", name := "distancePart", desc := "(III)J" } : Jvm.MethodName)) ∈ gtb := tc_3 184 (by decide +kernel) rfl
theorem tw_738 : (Jvm.Cond.selects "ConstraintText$ClockTable" ({ cls := "ConstraintText$ClockTable", name := "distancePart", desc := "(III)J" } : Jvm.MethodName) ({ cls := "ConstraintText$ClockTable", name := "distancePart", desc := "(III)J" } : Jvm.MethodName)) ∈ gtb := tc_3 185 (by decide +kernel) rfl
theorem tw_739 : (Jvm.Cond.code ({ cls := "ConstraintText$ClockTable", name := "distancePart", desc := "(III)J" } : Jvm.MethodName) prog_2_method_12_code (14 : Nat) (Option.some Jvm.ClassFile.FieldType.long)) ∈ gtb := tc_3 186 (by decide +kernel) rfl
theorem tw_740 : (Jvm.Cond.methodLink "ConstraintText$ClockTable" (71 : Nat) ({ cls := "java/lang/Math", name := "floorMod", desc := "(JJ)J" } : Jvm.MethodName)) ∈ gtb := tc_3 187 (by decide +kernel) rfl
theorem tw_741 : (Jvm.Cond.static ({ cls := "java/lang/Math", name := "floorMod", desc := "(JJ)J" } : Jvm.MethodName)) ∈ gtb := tc_3 188 (by decide +kernel) rfl
theorem tw_742 : (Jvm.Cond.code ({ cls := "java/lang/Math", name := "floorMod", desc := "(JJ)J" } : Jvm.MethodName) prog_12_method_52_code (6 : Nat) (Option.some Jvm.ClassFile.FieldType.long)) ∈ gtb := tc_3 189 (by decide +kernel) rfl
theorem tw_743 : (Jvm.Cond.methodLink "ConstraintTextLaw" (86 : Nat) ({ cls := "ConstraintTextLaw", name := "exception", desc := "(LConstraintText;III[J)I" } : Jvm.MethodName)) ∈ gtb := tc_3 190 (by decide +kernel) rfl
theorem tw_744 : (Jvm.Cond.static ({ cls := "ConstraintTextLaw", name := "exception", desc := "(LConstraintText;III[J)I" } : Jvm.MethodName)) ∈ gtb := tc_3 191 (by decide +kernel) rfl
theorem tw_746 : (Jvm.Cond.methodLink "ConstraintTextLaw" (26 : Nat) ({ cls := "ConstraintText", name := "exception", desc := "(III)I" } : Jvm.MethodName)) ∈ gtb := tc_3 193 (by decide +kernel) rfl
theorem tw_747 : (Jvm.Cond.instanceMethod ({ cls := "ConstraintText", name := "exception", desc := "(III)I" } : Jvm.MethodName)) ∈ gtb := tc_3 194 (by decide +kernel) rfl
theorem tw_748 : (Jvm.Cond.selects "ConstraintText" ({ cls := "ConstraintText", name := "exception", desc := "(III)I" } : Jvm.MethodName) ({ cls := "ConstraintText", name := "exception", desc := "(III)I" } : Jvm.MethodName)) ∈ gtb := tc_3 195 (by decide +kernel) rfl
theorem tw_749 : (Jvm.Cond.code ({ cls := "ConstraintText", name := "exception", desc := "(III)I" } : Jvm.MethodName) prog_1_method_9_code (4 : Nat) (Option.some Jvm.ClassFile.FieldType.int)) ∈ gtb := tc_3 196 (by decide +kernel) rfl
theorem tw_750 : (Jvm.Cond.methodLink "ConstraintText" (125 : Nat) ({ cls := "ConstraintText", name := "isPinOrNone", desc := "(I)Z" } : Jvm.MethodName)) ∈ gtb := tc_3 197 (by decide +kernel) rfl
theorem tw_751 : (Jvm.Cond.static ({ cls := "ConstraintText", name := "isPinOrNone", desc := "(I)Z" } : Jvm.MethodName)) ∈ gtb := tc_3 198 (by decide +kernel) rfl
theorem tw_752 : (Jvm.Cond.code ({ cls := "ConstraintText", name := "isPinOrNone", desc := "(I)Z" } : Jvm.MethodName) prog_1_method_16_code (1 : Nat) (Option.some Jvm.ClassFile.FieldType.boolean)) ∈ gtb := tc_3 199 (by decide +kernel) rfl
theorem tw_753 : (Jvm.Cond.methodLink "ConstraintText" (128 : Nat) ({ cls := "ConstraintText$Sheet", name := "winner", desc := "(III)I" } : Jvm.MethodName)) ∈ gtb := tc_3 200 (by decide +kernel) rfl
theorem tw_754 : (Jvm.Cond.instanceMethod ({ cls := "ConstraintText$Sheet", name := "winner", desc := "(III)I" } : Jvm.MethodName)) ∈ gtb := tc_3 201 (by decide +kernel) rfl
theorem tw_755 : (Jvm.Cond.selects "ConstraintText$Sheet" ({ cls := "ConstraintText$Sheet", name := "winner", desc := "(III)I" } : Jvm.MethodName) ({ cls := "ConstraintText$Sheet", name := "winner", desc := "(III)I" } : Jvm.MethodName)) ∈ gtb := tc_3 202 (by decide +kernel) rfl
theorem tw_756 : (Jvm.Cond.code ({ cls := "ConstraintText$Sheet", name := "winner", desc := "(III)I" } : Jvm.MethodName) prog_5_method_19_code (10 : Nat) (Option.some Jvm.ClassFile.FieldType.int)) ∈ gtb := tc_3 203 (by decide +kernel) rfl
theorem tw_757 : (Jvm.Cond.methodLink "ConstraintText$Sheet" (97 : Nat) ({ cls := "ConstraintText$Sheet", name := "strengthOf", desc := "(I)I" } : Jvm.MethodName)) ∈ gtb := tc_3 204 (by decide +kernel) rfl
theorem tw_758 : (Jvm.Cond.static ({ cls := "ConstraintText$Sheet", name := "strengthOf", desc := "(I)I" } : Jvm.MethodName)) ∈ gtb := tc_3 205 (by decide +kernel) rfl
theorem tw_759 : (Jvm.Cond.code ({ cls := "ConstraintText$Sheet", name := "strengthOf", desc := "(I)I" } : Jvm.MethodName) prog_5_method_20_code (1 : Nat) (Option.some Jvm.ClassFile.FieldType.int)) ∈ gtb := tc_3 206 (by decide +kernel) rfl
theorem tw_760 : (Jvm.Cond.methodLink "ConstraintText$Sheet" (100 : Nat) ({ cls := "ConstraintText$Sheet", name := "admits", desc := "(III)Z" } : Jvm.MethodName)) ∈ gtb := tc_3 207 (by decide +kernel) rfl
theorem tw_762 : (Jvm.Cond.instanceMethod ({ cls := "ConstraintText$Sheet", name := "admits", desc := "(III)Z" } : Jvm.MethodName)) ∈ gtb := tc_3 209 (by decide +kernel) rfl
theorem tw_763 : (Jvm.Cond.code ({ cls := "ConstraintText$Sheet", name := "admits", desc := "(III)Z" } : Jvm.MethodName) prog_5_method_22_code (4 : Nat) (Option.some Jvm.ClassFile.FieldType.boolean)) ∈ gtb := tc_3 210 (by decide +kernel) rfl
theorem tw_764 : (Jvm.Cond.methodLink "ConstraintText$Sheet" (107 : Nat) ({ cls := "ConstraintText$Sheet", name := "matches", desc := "(III)Z" } : Jvm.MethodName)) ∈ gtb := tc_3 211 (by decide +kernel) rfl
theorem tw_766 : (Jvm.Cond.instanceMethod ({ cls := "ConstraintText$Sheet", name := "matches", desc := "(III)Z" } : Jvm.MethodName)) ∈ gtb := tc_3 213 (by decide +kernel) rfl
theorem tw_767 : (Jvm.Cond.code ({ cls := "ConstraintText$Sheet", name := "matches", desc := "(III)Z" } : Jvm.MethodName) prog_5_method_24_code (4 : Nat) (Option.some Jvm.ClassFile.FieldType.boolean)) ∈ gtb := tc_3 214 (by decide +kernel) rfl
theorem tw_768 : (Jvm.Cond.methodLink "ConstraintText$Sheet" (110 : Nat) ({ cls := "ConstraintText$Sheet", name := "hitsOf", desc := "(II)J" } : Jvm.MethodName)) ∈ gtb := tc_3 215 (by decide +kernel) rfl
theorem tw_769 : (Jvm.Cond.methodLink "ConstraintText$Sheet" (104 : Nat) ({ cls := "ConstraintText$Sheet", name := "weightOf", desc := "(I)I" } : Jvm.MethodName)) ∈ gtb := tc_3 216 (by decide +kernel) rfl
theorem tw_771 : (Jvm.Cond.instanceMethod ({ cls := "ConstraintText$Sheet", name := "weightOf", desc := "(I)I" } : Jvm.MethodName)) ∈ gtb := tc_3 218 (by decide +kernel) rfl
theorem tw_772 : (Jvm.Cond.code ({ cls := "ConstraintText$Sheet", name := "weightOf", desc := "(I)I" } : Jvm.MethodName) prog_5_method_21_code (2 : Nat) (Option.some Jvm.ClassFile.FieldType.int)) ∈ gtb := tc_3 219 (by decide +kernel) rfl
theorem tw_773 : (Jvm.Cond.methodLink "ConstraintTextLaw" (89 : Nat) ({ cls := "ConstraintTextLaw", name := "row", desc := "(LConstraintText;II[J)I" } : Jvm.MethodName)) ∈ gtb := tc_3 220 (by decide +kernel) rfl
theorem tw_774 : (Jvm.Cond.static ({ cls := "ConstraintTextLaw", name := "row", desc := "(LConstraintText;II[J)I" } : Jvm.MethodName)) ∈ gtb := tc_3 221 (by decide +kernel) rfl
theorem tw_776 : (Jvm.Cond.methodLink "ConstraintTextLaw" (30 : Nat) ({ cls := "ConstraintText", name := "row", desc := "(II)I" } : Jvm.MethodName)) ∈ gtb := tc_3 223 (by decide +kernel) rfl
theorem tw_777 : (Jvm.Cond.instanceMethod ({ cls := "ConstraintText", name := "row", desc := "(II)I" } : Jvm.MethodName)) ∈ gtb := tc_3 224 (by decide +kernel) rfl
theorem tw_778 : (Jvm.Cond.selects "ConstraintText" ({ cls := "ConstraintText", name := "row", desc := "(II)I" } : Jvm.MethodName) ({ cls := "ConstraintText", name := "row", desc := "(II)I" } : Jvm.MethodName)) ∈ gtb := tc_3 225 (by decide +kernel) rfl
theorem tw_779 : (Jvm.Cond.code ({ cls := "ConstraintText", name := "row", desc := "(II)I" } : Jvm.MethodName) prog_1_method_10_code (3 : Nat) (Option.some Jvm.ClassFile.FieldType.int)) ∈ gtb := tc_3 226 (by decide +kernel) rfl
theorem tw_781 : (Jvm.Cond.methodLink "ConstraintTextLaw" (92 : Nat) ({ cls := "ConstraintTextLaw", name := "load", desc := "(LConstraintText;II[J)I" } : Jvm.MethodName)) ∈ gtb := tc_3 228 (by decide +kernel) rfl
theorem tw_782 : (Jvm.Cond.static ({ cls := "ConstraintTextLaw", name := "load", desc := "(LConstraintText;II[J)I" } : Jvm.MethodName)) ∈ gtb := tc_3 229 (by decide +kernel) rfl
theorem tw_784 : (Jvm.Cond.methodLink "ConstraintTextLaw" (33 : Nat) ({ cls := "ConstraintText", name := "load", desc := "(II)I" } : Jvm.MethodName)) ∈ gtb := tc_3 231 (by decide +kernel) rfl
theorem tw_785 : (Jvm.Cond.instanceMethod ({ cls := "ConstraintText", name := "load", desc := "(II)I" } : Jvm.MethodName)) ∈ gtb := tc_3 232 (by decide +kernel) rfl
theorem tw_786 : (Jvm.Cond.selects "ConstraintText" ({ cls := "ConstraintText", name := "load", desc := "(II)I" } : Jvm.MethodName) ({ cls := "ConstraintText", name := "load", desc := "(II)I" } : Jvm.MethodName)) ∈ gtb := tc_3 233 (by decide +kernel) rfl
theorem tw_787 : (Jvm.Cond.code ({ cls := "ConstraintText", name := "load", desc := "(II)I" } : Jvm.MethodName) prog_1_method_11_code (3 : Nat) (Option.some Jvm.ClassFile.FieldType.int)) ∈ gtb := tc_3 234 (by decide +kernel) rfl
theorem tw_789 : (Jvm.Cond.methodLink "ConstraintText" (142 : Nat) ({ cls := "ConstraintText$Sheet", name := "latestValue", desc := "(II)I" } : Jvm.MethodName)) ∈ gtb := tc_3 236 (by decide +kernel) rfl
theorem tw_790 : (Jvm.Cond.instanceMethod ({ cls := "ConstraintText$Sheet", name := "latestValue", desc := "(II)I" } : Jvm.MethodName)) ∈ gtb := tc_3 237 (by decide +kernel) rfl
theorem tw_791 : (Jvm.Cond.selects "ConstraintText$Sheet" ({ cls := "ConstraintText$Sheet", name := "latestValue", desc := "(II)I" } : Jvm.MethodName) ({ cls := "ConstraintText$Sheet", name := "latestValue", desc := "(II)I" } : Jvm.MethodName)) ∈ gtb := tc_3 238 (by decide +kernel) rfl
theorem tw_792 : (Jvm.Cond.code ({ cls := "ConstraintText$Sheet", name := "latestValue", desc := "(II)I" } : Jvm.MethodName) prog_5_method_25_code (4 : Nat) (Option.some Jvm.ClassFile.FieldType.int)) ∈ gtb := tc_3 239 (by decide +kernel) rfl
theorem tw_793 : (Jvm.Cond.methodLink "ConstraintTextLaw" (95 : Nat) ({ cls := "ConstraintTextLaw", name := "unmatched", desc := "(LConstraintText;I[J)I" } : Jvm.MethodName)) ∈ gtb := tc_4 0 (by decide +kernel) rfl
theorem tw_794 : (Jvm.Cond.static ({ cls := "ConstraintTextLaw", name := "unmatched", desc := "(LConstraintText;I[J)I" } : Jvm.MethodName)) ∈ gtb := tc_4 1 (by decide +kernel) rfl
theorem tw_796 : (Jvm.Cond.methodLink "ConstraintTextLaw" (36 : Nat) ({ cls := "ConstraintText", name := "unmatched", desc := "(I)I" } : Jvm.MethodName)) ∈ gtb := tc_4 3 (by decide +kernel) rfl
theorem tw_797 : (Jvm.Cond.instanceMethod ({ cls := "ConstraintText", name := "unmatched", desc := "(I)I" } : Jvm.MethodName)) ∈ gtb := tc_4 4 (by decide +kernel) rfl
theorem tw_798 : (Jvm.Cond.selects "ConstraintText" ({ cls := "ConstraintText", name := "unmatched", desc := "(I)I" } : Jvm.MethodName) ({ cls := "ConstraintText", name := "unmatched", desc := "(I)I" } : Jvm.MethodName)) ∈ gtb := tc_4 5 (by decide +kernel) rfl
theorem tw_799 : (Jvm.Cond.code ({ cls := "ConstraintText", name := "unmatched", desc := "(I)I" } : Jvm.MethodName) prog_1_method_12_code (2 : Nat) (Option.some Jvm.ClassFile.FieldType.int)) ∈ gtb := tc_4 6 (by decide +kernel) rfl
theorem tw_801 : (Jvm.Cond.methodLink "ConstraintText" (147 : Nat) ({ cls := "ConstraintText$Sheet", name := "idleRow", desc := "(I)I" } : Jvm.MethodName)) ∈ gtb := tc_4 8 (by decide +kernel) rfl
theorem tw_802 : (Jvm.Cond.instanceMethod ({ cls := "ConstraintText$Sheet", name := "idleRow", desc := "(I)I" } : Jvm.MethodName)) ∈ gtb := tc_4 9 (by decide +kernel) rfl
theorem tw_803 : (Jvm.Cond.selects "ConstraintText$Sheet" ({ cls := "ConstraintText$Sheet", name := "idleRow", desc := "(I)I" } : Jvm.MethodName) ({ cls := "ConstraintText$Sheet", name := "idleRow", desc := "(I)I" } : Jvm.MethodName)) ∈ gtb := tc_4 10 (by decide +kernel) rfl
theorem tw_804 : (Jvm.Cond.code ({ cls := "ConstraintText$Sheet", name := "idleRow", desc := "(I)I" } : Jvm.MethodName) prog_5_method_26_code (4 : Nat) (Option.some Jvm.ClassFile.FieldType.int)) ∈ gtb := tc_4 11 (by decide +kernel) rfl
theorem tw_805 : (Jvm.Cond.methodLink "ConstraintText$Sheet" (114 : Nat) ({ cls := "ConstraintText$Sheet", name := "isIdle", desc := "(I)Z" } : Jvm.MethodName)) ∈ gtb := tc_4 12 (by decide +kernel) rfl
theorem tw_807 : (Jvm.Cond.instanceMethod ({ cls := "ConstraintText$Sheet", name := "isIdle", desc := "(I)Z" } : Jvm.MethodName)) ∈ gtb := tc_4 14 (by decide +kernel) rfl
theorem tw_808 : (Jvm.Cond.code ({ cls := "ConstraintText$Sheet", name := "isIdle", desc := "(I)Z" } : Jvm.MethodName) prog_5_method_27_code (3 : Nat) (Option.some Jvm.ClassFile.FieldType.boolean)) ∈ gtb := tc_4 15 (by decide +kernel) rfl
theorem tw_809 : (Jvm.Cond.methodLink "ConstraintTextLaw" (99 : Nat) ({ cls := "ConstraintTextLaw", name := "clash", desc := "(LConstraintText;II[J)I" } : Jvm.MethodName)) ∈ gtb := tc_4 16 (by decide +kernel) rfl
theorem tw_810 : (Jvm.Cond.static ({ cls := "ConstraintTextLaw", name := "clash", desc := "(LConstraintText;II[J)I" } : Jvm.MethodName)) ∈ gtb := tc_4 17 (by decide +kernel) rfl
theorem tw_812 : (Jvm.Cond.methodLink "ConstraintTextLaw" (40 : Nat) ({ cls := "ConstraintText", name := "clash", desc := "(II)I" } : Jvm.MethodName)) ∈ gtb := tc_4 19 (by decide +kernel) rfl
theorem tw_813 : (Jvm.Cond.instanceMethod ({ cls := "ConstraintText", name := "clash", desc := "(II)I" } : Jvm.MethodName)) ∈ gtb := tc_4 20 (by decide +kernel) rfl
theorem tw_814 : (Jvm.Cond.selects "ConstraintText" ({ cls := "ConstraintText", name := "clash", desc := "(II)I" } : Jvm.MethodName) ({ cls := "ConstraintText", name := "clash", desc := "(II)I" } : Jvm.MethodName)) ∈ gtb := tc_4 21 (by decide +kernel) rfl
theorem tw_815 : (Jvm.Cond.code ({ cls := "ConstraintText", name := "clash", desc := "(II)I" } : Jvm.MethodName) prog_1_method_13_code (3 : Nat) (Option.some Jvm.ClassFile.FieldType.int)) ∈ gtb := tc_4 22 (by decide +kernel) rfl
theorem tw_817 : (Jvm.Cond.methodLink "ConstraintText" (153 : Nat) ({ cls := "ConstraintText$Sheet", name := "clashingRow", desc := "(II)I" } : Jvm.MethodName)) ∈ gtb := tc_4 24 (by decide +kernel) rfl
theorem tw_818 : (Jvm.Cond.instanceMethod ({ cls := "ConstraintText$Sheet", name := "clashingRow", desc := "(II)I" } : Jvm.MethodName)) ∈ gtb := tc_4 25 (by decide +kernel) rfl
theorem tw_819 : (Jvm.Cond.selects "ConstraintText$Sheet" ({ cls := "ConstraintText$Sheet", name := "clashingRow", desc := "(II)I" } : Jvm.MethodName) ({ cls := "ConstraintText$Sheet", name := "clashingRow", desc := "(II)I" } : Jvm.MethodName)) ∈ gtb := tc_4 26 (by decide +kernel) rfl
theorem tw_820 : (Jvm.Cond.code ({ cls := "ConstraintText$Sheet", name := "clashingRow", desc := "(II)I" } : Jvm.MethodName) prog_5_method_28_code (6 : Nat) (Option.some Jvm.ClassFile.FieldType.int)) ∈ gtb := tc_4 27 (by decide +kernel) rfl
theorem tw_821 : (Jvm.Cond.methodLink "ConstraintText$Sheet" (118 : Nat) ({ cls := "ConstraintText$Sheet", name := "haveClash", desc := "(II)Z" } : Jvm.MethodName)) ∈ gtb := tc_4 28 (by decide +kernel) rfl
theorem tw_823 : (Jvm.Cond.instanceMethod ({ cls := "ConstraintText$Sheet", name := "haveClash", desc := "(II)Z" } : Jvm.MethodName)) ∈ gtb := tc_4 30 (by decide +kernel) rfl
theorem tw_824 : (Jvm.Cond.code ({ cls := "ConstraintText$Sheet", name := "haveClash", desc := "(II)Z" } : Jvm.MethodName) prog_5_method_29_code (7 : Nat) (Option.some Jvm.ClassFile.FieldType.boolean)) ∈ gtb := tc_4 31 (by decide +kernel) rfl
theorem tw_826 : (Jvm.Cond.static ({ cls := "ConstraintText", name := "makesClock", desc := "(I)Z" } : Jvm.MethodName)) ∈ gtb := tc_4 33 (by decide +kernel) rfl
theorem tw_827 : (Jvm.Cond.code ({ cls := "ConstraintText", name := "makesClock", desc := "(I)Z" } : Jvm.MethodName) prog_1_method_21_code (1 : Nat) (Option.some Jvm.ClassFile.FieldType.boolean)) ∈ gtb := tc_4 34 (by decide +kernel) rfl
theorem tw_828 : (Jvm.Cond.methodLink "ConstraintTextLaw" (102 : Nat) ({ cls := "ConstraintTextLaw", name := "write", desc := "(LConstraintText;I[J)I" } : Jvm.MethodName)) ∈ gtb := tc_4 35 (by decide +kernel) rfl
theorem tw_829 : (Jvm.Cond.static ({ cls := "ConstraintTextLaw", name := "write", desc := "(LConstraintText;I[J)I" } : Jvm.MethodName)) ∈ gtb := tc_4 36 (by decide +kernel) rfl
theorem tw_831 : (Jvm.Cond.methodLink "ConstraintTextLaw" (43 : Nat) ({ cls := "ConstraintText", name := "write", desc := "(I)I" } : Jvm.MethodName)) ∈ gtb := tc_4 38 (by decide +kernel) rfl
theorem tw_832 : (Jvm.Cond.instanceMethod ({ cls := "ConstraintText", name := "write", desc := "(I)I" } : Jvm.MethodName)) ∈ gtb := tc_4 39 (by decide +kernel) rfl
theorem tw_833 : (Jvm.Cond.selects "ConstraintText" ({ cls := "ConstraintText", name := "write", desc := "(I)I" } : Jvm.MethodName) ({ cls := "ConstraintText", name := "write", desc := "(I)I" } : Jvm.MethodName)) ∈ gtb := tc_4 40 (by decide +kernel) rfl
theorem tw_834 : (Jvm.Cond.code ({ cls := "ConstraintText", name := "write", desc := "(I)I" } : Jvm.MethodName) prog_1_method_14_code (2 : Nat) (Option.some Jvm.ClassFile.FieldType.int)) ∈ gtb := tc_4 41 (by decide +kernel) rfl
theorem tw_835 : (Jvm.Cond.methodLink "ConstraintText" (159 : Nat) ({ cls := "ConstraintText$Sheet", name := "printedAt", desc := "(I)I" } : Jvm.MethodName)) ∈ gtb := tc_4 42 (by decide +kernel) rfl
theorem tw_836 : (Jvm.Cond.methodLink "ConstraintTextLaw" (105 : Nat) ({ cls := "ConstraintTextLaw", name := "count", desc := "(LConstraintText;I[J)I" } : Jvm.MethodName)) ∈ gtb := tc_4 43 (by decide +kernel) rfl
theorem tw_837 : (Jvm.Cond.static ({ cls := "ConstraintTextLaw", name := "count", desc := "(LConstraintText;I[J)I" } : Jvm.MethodName)) ∈ gtb := tc_4 44 (by decide +kernel) rfl
theorem tw_839 : (Jvm.Cond.methodLink "ConstraintTextLaw" (46 : Nat) ({ cls := "ConstraintText", name := "count", desc := "(I)I" } : Jvm.MethodName)) ∈ gtb := tc_4 46 (by decide +kernel) rfl
theorem tw_840 : (Jvm.Cond.instanceMethod ({ cls := "ConstraintText", name := "count", desc := "(I)I" } : Jvm.MethodName)) ∈ gtb := tc_4 47 (by decide +kernel) rfl
theorem tw_841 : (Jvm.Cond.selects "ConstraintText" ({ cls := "ConstraintText", name := "count", desc := "(I)I" } : Jvm.MethodName) ({ cls := "ConstraintText", name := "count", desc := "(I)I" } : Jvm.MethodName)) ∈ gtb := tc_4 48 (by decide +kernel) rfl
theorem tw_842 : (Jvm.Cond.code ({ cls := "ConstraintText", name := "count", desc := "(I)I" } : Jvm.MethodName) prog_1_method_15_code (2 : Nat) (Option.some Jvm.ClassFile.FieldType.int)) ∈ gtb := tc_4 49 (by decide +kernel) rfl
theorem tw_844 : (Jvm.Cond.classLink "ConstraintTextLaw" (50 : Nat) "ConstraintTextModel") ∈ gtb := tc_4 51 (by decide +kernel) rfl
theorem tw_845 : (Jvm.Cond.instantiable "ConstraintTextModel" (33 : Nat)) ∈ gtb := tc_4 52 (by decide +kernel) rfl
theorem tw_846 : (Jvm.Cond.methodLink "ConstraintTextLaw" (52 : Nat) ({ cls := "ConstraintTextModel", name := "<init>", desc := "()V" } : Jvm.MethodName)) ∈ gtb := tc_4 53 (by decide +kernel) rfl
theorem tw_847 : (Jvm.Cond.instanceMethod ({ cls := "ConstraintTextModel", name := "<init>", desc := "()V" } : Jvm.MethodName)) ∈ gtb := tc_4 54 (by decide +kernel) rfl
theorem tw_848 : (Jvm.Cond.code ({ cls := "ConstraintTextModel", name := "<init>", desc := "()V" } : Jvm.MethodName) prog_8_method_1_code (1 : Nat) (Option.none : Option Jvm.ClassFile.FieldType)) ∈ gtb := tc_4 55 (by decide +kernel) rfl
theorem tw_849 : (Jvm.Cond.methodLink "ConstraintTextModel" (1 : Nat) ({ cls := "java/lang/Object", name := "<init>", desc := "()V" } : Jvm.MethodName)) ∈ gtb := tc_4 56 (by decide +kernel) rfl
theorem tw_850 : (Jvm.Cond.fieldLink "ConstraintTextModel" (75 : Nat) "ConstraintTextModel" "code" "I") ∈ gtb := tc_4 57 (by decide +kernel) rfl
theorem tw_851 : (Jvm.Cond.fieldLink "ConstraintTextModel" (7 : Nat) "ConstraintTextModel" "letters" "[I") ∈ gtb := tc_4 58 (by decide +kernel) rfl
theorem tw_852 : (Jvm.Cond.fieldLink "ConstraintTextModel" (13 : Nat) "ConstraintTextModel" "sizes" "[I") ∈ gtb := tc_4 59 (by decide +kernel) rfl
theorem tw_853 : (Jvm.Cond.fieldLink "ConstraintTextModel" (16 : Nat) "ConstraintTextModel" "tape" "[I") ∈ gtb := tc_4 60 (by decide +kernel) rfl
theorem tw_854 : (Jvm.Cond.fieldLink "ConstraintTextModel" (86 : Nat) "ConstraintTextModel" "length" "I") ∈ gtb := tc_4 61 (by decide +kernel) rfl
theorem tw_855 : (Jvm.Cond.fieldLink "ConstraintTextModel" (205 : Nat) "ConstraintTextModel" "rows" "I") ∈ gtb := tc_4 62 (by decide +kernel) rfl
theorem tw_856 : (Jvm.Cond.fieldLink "ConstraintTextModel" (19 : Nat) "ConstraintTextModel" "sort" "[I") ∈ gtb := tc_4 63 (by decide +kernel) rfl
theorem tw_857 : (Jvm.Cond.fieldLink "ConstraintTextModel" (22 : Nat) "ConstraintTextModel" "nameC" "[J") ∈ gtb := tc_4 64 (by decide +kernel) rfl
theorem tw_858 : (Jvm.Cond.fieldLink "ConstraintTextModel" (26 : Nat) "ConstraintTextModel" "nameD" "[J") ∈ gtb := tc_4 65 (by decide +kernel) rfl
theorem tw_859 : (Jvm.Cond.fieldLink "ConstraintTextModel" (29 : Nat) "ConstraintTextModel" "one" "[I") ∈ gtb := tc_4 66 (by decide +kernel) rfl
theorem tw_860 : (Jvm.Cond.fieldLink "ConstraintTextModel" (32 : Nat) "ConstraintTextModel" "two" "[I") ∈ gtb := tc_4 67 (by decide +kernel) rfl
theorem tw_861 : (Jvm.Cond.fieldLink "ConstraintTextModel" (35 : Nat) "ConstraintTextModel" "three" "[I") ∈ gtb := tc_4 68 (by decide +kernel) rfl
theorem tw_862 : (Jvm.Cond.fieldLink "ConstraintTextModel" (38 : Nat) "ConstraintTextModel" "pattern" "[I") ∈ gtb := tc_4 69 (by decide +kernel) rfl
theorem tw_863 : (Jvm.Cond.fieldLink "ConstraintTextModel" (41 : Nat) "ConstraintTextModel" "patternSize" "[I") ∈ gtb := tc_4 70 (by decide +kernel) rfl
theorem tw_864 : (Jvm.Cond.fieldLink "ConstraintTextModel" (208 : Nat) "ConstraintTextModel" "clocks" "I") ∈ gtb := tc_4 71 (by decide +kernel) rfl
theorem tw_865 : (Jvm.Cond.fieldLink "ConstraintTextModel" (44 : Nat) "ConstraintTextModel" "clockRow" "[I") ∈ gtb := tc_4 72 (by decide +kernel) rfl
theorem tw_866 : (Jvm.Cond.fieldLink "ConstraintTextModel" (47 : Nat) "ConstraintTextModel" "from" "[I") ∈ gtb := tc_4 73 (by decide +kernel) rfl
theorem tw_867 : (Jvm.Cond.fieldLink "ConstraintTextModel" (50 : Nat) "ConstraintTextModel" "period" "[J") ∈ gtb := tc_4 74 (by decide +kernel) rfl
theorem tw_868 : (Jvm.Cond.fieldLink "ConstraintTextModel" (53 : Nat) "ConstraintTextModel" "rise" "[J") ∈ gtb := tc_4 75 (by decide +kernel) rfl
theorem tw_869 : (Jvm.Cond.fieldLink "ConstraintTextModel" (56 : Nat) "ConstraintTextModel" "fall" "[J") ∈ gtb := tc_4 76 (by decide +kernel) rfl
theorem tw_870 : (Jvm.Cond.fieldLink "ConstraintTextModel" (59 : Nat) "ConstraintTextModel" "under" "[J") ∈ gtb := tc_4 77 (by decide +kernel) rfl
theorem tw_871 : (Jvm.Cond.fieldLink "ConstraintTextModel" (62 : Nat) "ConstraintTextModel" "great" "[Z") ∈ gtb := tc_4 78 (by decide +kernel) rfl
theorem tw_872 : (Jvm.Cond.fieldLink "ConstraintTextModel" (92 : Nat) "ConstraintTextModel" "begin" "I") ∈ gtb := tc_4 79 (by decide +kernel) rfl
theorem tw_873 : (Jvm.Cond.fieldLink "ConstraintTextModel" (89 : Nat) "ConstraintTextModel" "end" "I") ∈ gtb := tc_4 80 (by decide +kernel) rfl
theorem tw_874 : (Jvm.Cond.fieldLink "ConstraintTextModel" (95 : Nat) "ConstraintTextModel" "right" "Z") ∈ gtb := tc_4 81 (by decide +kernel) rfl
theorem tw_875 : (Jvm.Cond.fieldLink "ConstraintTextModel" (133 : Nat) "ConstraintTextModel" "newRows" "I") ∈ gtb := tc_4 82 (by decide +kernel) rfl
theorem tw_876 : (Jvm.Cond.fieldLink "ConstraintTextModel" (126 : Nat) "ConstraintTextModel" "newClocks" "I") ∈ gtb := tc_4 83 (by decide +kernel) rfl
theorem tw_877 : (Jvm.Cond.fieldLink "ConstraintTextModel" (66 : Nat) "ConstraintTextModel" "placeC" "[I") ∈ gtb := tc_4 84 (by decide +kernel) rfl
theorem tw_878 : (Jvm.Cond.fieldLink "ConstraintTextModel" (69 : Nat) "ConstraintTextModel" "placeD" "[I") ∈ gtb := tc_4 85 (by decide +kernel) rfl
theorem tw_879 : (Jvm.Cond.fieldLink "ConstraintTextModel" (72 : Nat) "ConstraintTextModel" "reads" "[Z") ∈ gtb := tc_4 86 (by decide +kernel) rfl
theorem tw_880 : (Jvm.Cond.fieldLink "ConstraintTextModel" (247 : Nat) "ConstraintTextModel" "wanted" "I") ∈ gtb := tc_4 87 (by decide +kernel) rfl
theorem tw_881 : (Jvm.Cond.fieldLink "ConstraintTextModel" (244 : Nat) "ConstraintTextModel" "printed" "I") ∈ gtb := tc_4 88 (by decide +kernel) rfl
theorem tw_882 : (Jvm.Cond.fieldLink "ConstraintTextModel" (250 : Nat) "ConstraintTextModel" "told" "I") ∈ gtb := tc_4 89 (by decide +kernel) rfl
theorem tw_883 : (Jvm.Cond.lays "ConstraintTextModel" "ConstraintTextModel" "code" "I") ∈ gtb := tc_4 90 (by decide +kernel) rfl
theorem tw_885 : (Jvm.Cond.laysFinal "ConstraintTextModel" "ConstraintTextModel" "letters" "[I") ∈ gtb := tc_4 92 (by decide +kernel) rfl
theorem tw_887 : (Jvm.Cond.laysFinal "ConstraintTextModel" "ConstraintTextModel" "sizes" "[I") ∈ gtb := tc_4 94 (by decide +kernel) rfl
theorem tw_889 : (Jvm.Cond.laysFinal "ConstraintTextModel" "ConstraintTextModel" "tape" "[I") ∈ gtb := tc_4 96 (by decide +kernel) rfl
theorem tw_891 : (Jvm.Cond.lays "ConstraintTextModel" "ConstraintTextModel" "length" "I") ∈ gtb := tc_4 98 (by decide +kernel) rfl
theorem tw_893 : (Jvm.Cond.lays "ConstraintTextModel" "ConstraintTextModel" "rows" "I") ∈ gtb := tc_4 100 (by decide +kernel) rfl
theorem tw_895 : (Jvm.Cond.laysFinal "ConstraintTextModel" "ConstraintTextModel" "sort" "[I") ∈ gtb := tc_4 102 (by decide +kernel) rfl
theorem tw_897 : (Jvm.Cond.laysFinal "ConstraintTextModel" "ConstraintTextModel" "nameC" "[J") ∈ gtb := tc_4 104 (by decide +kernel) rfl
theorem tw_899 : (Jvm.Cond.laysFinal "ConstraintTextModel" "ConstraintTextModel" "nameD" "[J") ∈ gtb := tc_4 106 (by decide +kernel) rfl
theorem tw_901 : (Jvm.Cond.laysFinal "ConstraintTextModel" "ConstraintTextModel" "one" "[I") ∈ gtb := tc_4 108 (by decide +kernel) rfl
theorem tw_903 : (Jvm.Cond.laysFinal "ConstraintTextModel" "ConstraintTextModel" "two" "[I") ∈ gtb := tc_4 110 (by decide +kernel) rfl
theorem tw_905 : (Jvm.Cond.laysFinal "ConstraintTextModel" "ConstraintTextModel" "three" "[I") ∈ gtb := tc_4 112 (by decide +kernel) rfl
theorem tw_907 : (Jvm.Cond.laysFinal "ConstraintTextModel" "ConstraintTextModel" "pattern" "[I") ∈ gtb := tc_4 114 (by decide +kernel) rfl
theorem tw_909 : (Jvm.Cond.laysFinal "ConstraintTextModel" "ConstraintTextModel" "patternSize" "[I") ∈ gtb := tc_4 116 (by decide +kernel) rfl
theorem tw_911 : (Jvm.Cond.lays "ConstraintTextModel" "ConstraintTextModel" "clocks" "I") ∈ gtb := tc_4 118 (by decide +kernel) rfl
theorem tw_913 : (Jvm.Cond.laysFinal "ConstraintTextModel" "ConstraintTextModel" "clockRow" "[I") ∈ gtb := tc_4 120 (by decide +kernel) rfl
theorem tw_915 : (Jvm.Cond.laysFinal "ConstraintTextModel" "ConstraintTextModel" "from" "[I") ∈ gtb := tc_4 122 (by decide +kernel) rfl
theorem tw_917 : (Jvm.Cond.laysFinal "ConstraintTextModel" "ConstraintTextModel" "period" "[J") ∈ gtb := tc_4 124 (by decide +kernel) rfl
theorem tw_919 : (Jvm.Cond.laysFinal "ConstraintTextModel" "ConstraintTextModel" "rise" "[J") ∈ gtb := tc_4 126 (by decide +kernel) rfl
theorem tw_921 : (Jvm.Cond.laysFinal "ConstraintTextModel" "ConstraintTextModel" "fall" "[J") ∈ gtb := tc_4 128 (by decide +kernel) rfl
theorem tw_923 : (Jvm.Cond.laysFinal "ConstraintTextModel" "ConstraintTextModel" "under" "[J") ∈ gtb := tc_4 130 (by decide +kernel) rfl
theorem tw_925 : (Jvm.Cond.laysFinal "ConstraintTextModel" "ConstraintTextModel" "great" "[Z") ∈ gtb := tc_4 132 (by decide +kernel) rfl
theorem tw_927 : (Jvm.Cond.lays "ConstraintTextModel" "ConstraintTextModel" "begin" "I") ∈ gtb := tc_4 134 (by decide +kernel) rfl
theorem tw_929 : (Jvm.Cond.lays "ConstraintTextModel" "ConstraintTextModel" "end" "I") ∈ gtb := tc_4 136 (by decide +kernel) rfl
theorem tw_931 : (Jvm.Cond.lays "ConstraintTextModel" "ConstraintTextModel" "right" "Z") ∈ gtb := tc_4 138 (by decide +kernel) rfl
theorem tw_933 : (Jvm.Cond.lays "ConstraintTextModel" "ConstraintTextModel" "newRows" "I") ∈ gtb := tc_4 140 (by decide +kernel) rfl
theorem tw_935 : (Jvm.Cond.lays "ConstraintTextModel" "ConstraintTextModel" "newClocks" "I") ∈ gtb := tc_4 142 (by decide +kernel) rfl
theorem tw_937 : (Jvm.Cond.laysFinal "ConstraintTextModel" "ConstraintTextModel" "placeC" "[I") ∈ gtb := tc_4 144 (by decide +kernel) rfl
theorem tw_939 : (Jvm.Cond.laysFinal "ConstraintTextModel" "ConstraintTextModel" "placeD" "[I") ∈ gtb := tc_4 146 (by decide +kernel) rfl
theorem tw_941 : (Jvm.Cond.laysFinal "ConstraintTextModel" "ConstraintTextModel" "reads" "[Z") ∈ gtb := tc_4 148 (by decide +kernel) rfl
theorem tw_943 : (Jvm.Cond.lays "ConstraintTextModel" "ConstraintTextModel" "wanted" "I") ∈ gtb := tc_4 150 (by decide +kernel) rfl
theorem tw_945 : (Jvm.Cond.lays "ConstraintTextModel" "ConstraintTextModel" "printed" "I") ∈ gtb := tc_4 152 (by decide +kernel) rfl
theorem tw_947 : (Jvm.Cond.lays "ConstraintTextModel" "ConstraintTextModel" "told" "I") ∈ gtb := tc_4 154 (by decide +kernel) rfl
theorem tw_949 : (Jvm.Cond.superclass "ConstraintTextModel" "java/lang/Object") ∈ gtb := tc_4 156 (by decide +kernel) rfl
theorem tw_950 : (Jvm.Cond.methodLink "ConstraintTextLaw" (68 : Nat) ({ cls := "ConstraintTextModel", name := "thrown", desc := "()I" } : Jvm.MethodName)) ∈ gtb := tc_4 157 (by decide +kernel) rfl
theorem tw_951 : (Jvm.Cond.instanceMethod ({ cls := "ConstraintTextModel", name := "thrown", desc := "()I" } : Jvm.MethodName)) ∈ gtb := tc_4 158 (by decide +kernel) rfl
theorem tw_952 : (Jvm.Cond.selects "ConstraintTextModel" ({ cls := "ConstraintTextModel", name := "thrown", desc := "()I" } : Jvm.MethodName) ({ cls := "ConstraintTextModel", name := "thrown", desc := "()I" } : Jvm.MethodName)) ∈ gtb := tc_4 159 (by decide +kernel) rfl
theorem tw_953 : (Jvm.Cond.code ({ cls := "ConstraintTextModel", name := "thrown", desc := "()I" } : Jvm.MethodName) prog_8_method_2_code (1 : Nat) (Option.some Jvm.ClassFile.FieldType.int)) ∈ gtb := tc_4 160 (by decide +kernel) rfl
theorem tw_954 : (Jvm.Cond.methodLink "ConstraintTextLaw" (67 : Nat) ({ cls := "ConstraintTextModel", name := "name", desc := "(II)Z" } : Jvm.MethodName)) ∈ gtb := tc_4 161 (by decide +kernel) rfl
theorem tw_955 : (Jvm.Cond.instanceMethod ({ cls := "ConstraintTextModel", name := "name", desc := "(II)Z" } : Jvm.MethodName)) ∈ gtb := tc_4 162 (by decide +kernel) rfl
theorem tw_956 : (Jvm.Cond.selects "ConstraintTextModel" ({ cls := "ConstraintTextModel", name := "name", desc := "(II)Z" } : Jvm.MethodName) ({ cls := "ConstraintTextModel", name := "name", desc := "(II)Z" } : Jvm.MethodName)) ∈ gtb := tc_4 163 (by decide +kernel) rfl
theorem tw_957 : (Jvm.Cond.code ({ cls := "ConstraintTextModel", name := "name", desc := "(II)Z" } : Jvm.MethodName) prog_8_method_4_code (3 : Nat) (Option.some Jvm.ClassFile.FieldType.boolean)) ∈ gtb := tc_4 164 (by decide +kernel) rfl
theorem tw_958 : (Jvm.Cond.methodLink "ConstraintTextModel" (79 : Nat) ({ cls := "ConstraintTextModel", name := "isName", desc := "(I)Z" } : Jvm.MethodName)) ∈ gtb := tc_4 165 (by decide +kernel) rfl
theorem tw_959 : (Jvm.Cond.static ({ cls := "ConstraintTextModel", name := "isName", desc := "(I)Z" } : Jvm.MethodName)) ∈ gtb := tc_4 166 (by decide +kernel) rfl
theorem tw_960 : (Jvm.Cond.code ({ cls := "ConstraintTextModel", name := "isName", desc := "(I)Z" } : Jvm.MethodName) prog_8_method_3_code (1 : Nat) (Option.some Jvm.ClassFile.FieldType.boolean)) ∈ gtb := tc_4 167 (by decide +kernel) rfl
theorem tw_961 : (Jvm.Cond.methodLink "ConstraintTextLaw" (57 : Nat) ({ cls := "ConstraintTextModel", name := "unit", desc := "(I)Z" } : Jvm.MethodName)) ∈ gtb := tc_4 168 (by decide +kernel) rfl
theorem tw_962 : (Jvm.Cond.instanceMethod ({ cls := "ConstraintTextModel", name := "unit", desc := "(I)Z" } : Jvm.MethodName)) ∈ gtb := tc_4 169 (by decide +kernel) rfl
theorem tw_963 : (Jvm.Cond.selects "ConstraintTextModel" ({ cls := "ConstraintTextModel", name := "unit", desc := "(I)Z" } : Jvm.MethodName) ({ cls := "ConstraintTextModel", name := "unit", desc := "(I)Z" } : Jvm.MethodName)) ∈ gtb := tc_4 170 (by decide +kernel) rfl
theorem tw_964 : (Jvm.Cond.code ({ cls := "ConstraintTextModel", name := "unit", desc := "(I)Z" } : Jvm.MethodName) prog_8_method_6_code (2 : Nat) (Option.some Jvm.ClassFile.FieldType.boolean)) ∈ gtb := tc_4 171 (by decide +kernel) rfl
theorem tw_965 : (Jvm.Cond.methodLink "ConstraintTextModel" (83 : Nat) ({ cls := "ConstraintTextModel", name := "isCharacter", desc := "(I)Z" } : Jvm.MethodName)) ∈ gtb := tc_4 172 (by decide +kernel) rfl
theorem tw_966 : (Jvm.Cond.static ({ cls := "ConstraintTextModel", name := "isCharacter", desc := "(I)Z" } : Jvm.MethodName)) ∈ gtb := tc_4 173 (by decide +kernel) rfl
theorem tw_967 : (Jvm.Cond.code ({ cls := "ConstraintTextModel", name := "isCharacter", desc := "(I)Z" } : Jvm.MethodName) prog_8_method_5_code (1 : Nat) (Option.some Jvm.ClassFile.FieldType.boolean)) ∈ gtb := tc_4 174 (by decide +kernel) rfl
theorem tw_968 : (Jvm.Cond.methodLink "ConstraintTextLaw" (61 : Nat) ({ cls := "ConstraintTextModel", name := "units", desc := "(I)Z" } : Jvm.MethodName)) ∈ gtb := tc_4 175 (by decide +kernel) rfl
theorem tw_969 : (Jvm.Cond.instanceMethod ({ cls := "ConstraintTextModel", name := "units", desc := "(I)Z" } : Jvm.MethodName)) ∈ gtb := tc_4 176 (by decide +kernel) rfl
theorem tw_970 : (Jvm.Cond.selects "ConstraintTextModel" ({ cls := "ConstraintTextModel", name := "units", desc := "(I)Z" } : Jvm.MethodName) ({ cls := "ConstraintTextModel", name := "units", desc := "(I)Z" } : Jvm.MethodName)) ∈ gtb := tc_4 177 (by decide +kernel) rfl
theorem tw_971 : (Jvm.Cond.code ({ cls := "ConstraintTextModel", name := "units", desc := "(I)Z" } : Jvm.MethodName) prog_8_method_7_code (5 : Nat) (Option.some Jvm.ClassFile.FieldType.boolean)) ∈ gtb := tc_4 178 (by decide +kernel) rfl
theorem tw_972 : (Jvm.Cond.methodLink "ConstraintTextLaw" (75 : Nat) ({ cls := "ConstraintTextModel", name := "read", desc := "()I" } : Jvm.MethodName)) ∈ gtb := tc_4 179 (by decide +kernel) rfl
theorem tw_973 : (Jvm.Cond.instanceMethod ({ cls := "ConstraintTextModel", name := "read", desc := "()I" } : Jvm.MethodName)) ∈ gtb := tc_4 180 (by decide +kernel) rfl
theorem tw_974 : (Jvm.Cond.selects "ConstraintTextModel" ({ cls := "ConstraintTextModel", name := "read", desc := "()I" } : Jvm.MethodName) ({ cls := "ConstraintTextModel", name := "read", desc := "()I" } : Jvm.MethodName)) ∈ gtb := tc_4 181 (by decide +kernel) rfl
theorem tw_975 : (Jvm.Cond.code ({ cls := "ConstraintTextModel", name := "read", desc := "()I" } : Jvm.MethodName) prog_8_method_33_code (2 : Nat) (Option.some Jvm.ClassFile.FieldType.int)) ∈ gtb := tc_4 182 (by decide +kernel) rfl
theorem tw_976 : (Jvm.Cond.methodLink "ConstraintTextModel" (99 : Nat) ({ cls := "ConstraintTextModel", name := "next", desc := "()V" } : Jvm.MethodName)) ∈ gtb := tc_4 183 (by decide +kernel) rfl
theorem tw_978 : (Jvm.Cond.instanceMethod ({ cls := "ConstraintTextModel", name := "next", desc := "()V" } : Jvm.MethodName)) ∈ gtb := tc_4 185 (by decide +kernel) rfl
theorem tw_979 : (Jvm.Cond.code ({ cls := "ConstraintTextModel", name := "next", desc := "()V" } : Jvm.MethodName) prog_8_method_8_code (1 : Nat) (Option.none : Option Jvm.ClassFile.FieldType)) ∈ gtb := tc_4 186 (by decide +kernel) rfl
theorem tw_980 : (Jvm.Cond.methodLink "ConstraintTextModel" (187 : Nat) ({ cls := "ConstraintTextModel", name := "readRow", desc := "()V" } : Jvm.MethodName)) ∈ gtb := tc_4 187 (by decide +kernel) rfl
theorem tw_982 : (Jvm.Cond.instanceMethod ({ cls := "ConstraintTextModel", name := "readRow", desc := "()V" } : Jvm.MethodName)) ∈ gtb := tc_4 189 (by decide +kernel) rfl
theorem tw_983 : (Jvm.Cond.code ({ cls := "ConstraintTextModel", name := "readRow", desc := "()V" } : Jvm.MethodName) prog_8_method_25_code (4 : Nat) (Option.none : Option Jvm.ClassFile.FieldType)) ∈ gtb := tc_4 190 (by decide +kernel) rfl
theorem tw_984 : (Jvm.Cond.methodLink "ConstraintTextModel" (129 : Nat) ({ cls := "ConstraintTextModel", name := "wordName", desc := "()J" } : Jvm.MethodName)) ∈ gtb := tc_4 191 (by decide +kernel) rfl
theorem tw_986 : (Jvm.Cond.instanceMethod ({ cls := "ConstraintTextModel", name := "wordName", desc := "()J" } : Jvm.MethodName)) ∈ gtb := tc_4 193 (by decide +kernel) rfl
theorem tw_987 : (Jvm.Cond.code ({ cls := "ConstraintTextModel", name := "wordName", desc := "()J" } : Jvm.MethodName) prog_8_method_11_code (5 : Nat) (Option.some Jvm.ClassFile.FieldType.long)) ∈ gtb := tc_4 194 (by decide +kernel) rfl
theorem tw_988 : (Jvm.Cond.constantLong "ConstraintTextModel" (106 : Nat) (27 : Int64)) ∈ gtb := tc_4 195 (by decide +kernel) rfl
theorem tw_989 : (Jvm.Cond.constantLong "ConstraintTextModel" (108 : Nat) (96 : Int64)) ∈ gtb := tc_4 196 (by decide +kernel) rfl
theorem tw_990 : (Jvm.Cond.methodLink "ConstraintTextModel" (157 : Nat) ({ cls := "ConstraintTextModel", name := "sortOf", desc := "(J)I" } : Jvm.MethodName)) ∈ gtb := tc_4 197 (by decide +kernel) rfl
theorem tw_992 : (Jvm.Cond.instanceMethod ({ cls := "ConstraintTextModel", name := "sortOf", desc := "(J)I" } : Jvm.MethodName)) ∈ gtb := tc_4 199 (by decide +kernel) rfl
theorem tw_993 : (Jvm.Cond.code ({ cls := "ConstraintTextModel", name := "sortOf", desc := "(J)I" } : Jvm.MethodName) prog_8_method_18_code (5 : Nat) (Option.some Jvm.ClassFile.FieldType.int)) ∈ gtb := tc_4 200 (by decide +kernel) rfl
theorem tw_994 : (Jvm.Cond.methodLink "ConstraintTextModel" (122 : Nat) ({ cls := "ConstraintTextModel", name := "wordOf", desc := "(I)J" } : Jvm.MethodName)) ∈ gtb := tc_4 201 (by decide +kernel) rfl
theorem tw_995 : (Jvm.Cond.static ({ cls := "ConstraintTextModel", name := "wordOf", desc := "(I)J" } : Jvm.MethodName)) ∈ gtb := tc_4 202 (by decide +kernel) rfl
theorem tw_996 : (Jvm.Cond.code ({ cls := "ConstraintTextModel", name := "wordOf", desc := "(I)J" } : Jvm.MethodName) prog_8_method_17_code (1 : Nat) (Option.some Jvm.ClassFile.FieldType.long)) ∈ gtb := tc_4 203 (by decide +kernel) rfl
theorem tw_997 : (Jvm.Cond.methodLink "ConstraintTextModel" (118 : Nat) ({ cls := "ConstraintTextModel", name := "word", desc := "(IIIIII)J" } : Jvm.MethodName)) ∈ gtb := tc_4 204 (by decide +kernel) rfl
theorem tw_998 : (Jvm.Cond.static ({ cls := "ConstraintTextModel", name := "word", desc := "(IIIIII)J" } : Jvm.MethodName)) ∈ gtb := tc_4 205 (by decide +kernel) rfl
theorem tw_999 : (Jvm.Cond.code ({ cls := "ConstraintTextModel", name := "word", desc := "(IIIIII)J" } : Jvm.MethodName) prog_8_method_16_code (8 : Nat) (Option.some Jvm.ClassFile.FieldType.long)) ∈ gtb := tc_4 206 (by decide +kernel) rfl
theorem tw_1000 : (Jvm.Cond.methodLink "ConstraintTextModel" (102 : Nat) ({ cls := "ConstraintTextModel", name := "take", desc := "(Z)V" } : Jvm.MethodName)) ∈ gtb := tc_4 207 (by decide +kernel) rfl
theorem tw_1002 : (Jvm.Cond.instanceMethod ({ cls := "ConstraintTextModel", name := "take", desc := "(Z)V" } : Jvm.MethodName)) ∈ gtb := tc_4 209 (by decide +kernel) rfl
theorem tw_1003 : (Jvm.Cond.code ({ cls := "ConstraintTextModel", name := "take", desc := "(Z)V" } : Jvm.MethodName) prog_8_method_9_code (2 : Nat) (Option.none : Option Jvm.ClassFile.FieldType)) ∈ gtb := tc_4 210 (by decide +kernel) rfl
theorem tw_1004 : (Jvm.Cond.methodLink "ConstraintTextModel" (160 : Nat) ({ cls := "ConstraintTextModel", name := "readClock", desc := "(I)V" } : Jvm.MethodName)) ∈ gtb := tc_4 211 (by decide +kernel) rfl
theorem tw_1006 : (Jvm.Cond.instanceMethod ({ cls := "ConstraintTextModel", name := "readClock", desc := "(I)V" } : Jvm.MethodName)) ∈ gtb := tc_4 213 (by decide +kernel) rfl
theorem tw_1007 : (Jvm.Cond.code ({ cls := "ConstraintTextModel", name := "readClock", desc := "(I)V" } : Jvm.MethodName) prog_8_method_22_code (3 : Nat) (Option.none : Option Jvm.ClassFile.FieldType)) ∈ gtb := tc_4 214 (by decide +kernel) rfl
theorem tw_1008 : (Jvm.Cond.methodLink "ConstraintTextModel" (140 : Nat) ({ cls := "ConstraintTextModel", name := "takeNew", desc := "(I)V" } : Jvm.MethodName)) ∈ gtb := tc_4 215 (by decide +kernel) rfl
theorem tw_1010 : (Jvm.Cond.instanceMethod ({ cls := "ConstraintTextModel", name := "takeNew", desc := "(I)V" } : Jvm.MethodName)) ∈ gtb := tc_4 217 (by decide +kernel) rfl
theorem tw_1011 : (Jvm.Cond.code ({ cls := "ConstraintTextModel", name := "takeNew", desc := "(I)V" } : Jvm.MethodName) prog_8_method_20_code (4 : Nat) (Option.none : Option Jvm.ClassFile.FieldType)) ∈ gtb := tc_4 218 (by decide +kernel) rfl
theorem tw_1012 : (Jvm.Cond.methodLink "ConstraintTextModel" (136 : Nat) ({ cls := "ConstraintTextModel", name := "clockOf", desc := "(J)I" } : Jvm.MethodName)) ∈ gtb := tc_4 219 (by decide +kernel) rfl
theorem tw_1014 : (Jvm.Cond.instanceMethod ({ cls := "ConstraintTextModel", name := "clockOf", desc := "(J)I" } : Jvm.MethodName)) ∈ gtb := tc_4 221 (by decide +kernel) rfl
theorem tw_1015 : (Jvm.Cond.code ({ cls := "ConstraintTextModel", name := "clockOf", desc := "(J)I" } : Jvm.MethodName) prog_8_method_19_code (5 : Nat) (Option.some Jvm.ClassFile.FieldType.int)) ∈ gtb := tc_4 222 (by decide +kernel) rfl
theorem tw_1016 : (Jvm.Cond.constant "ConstraintTextModel" (144 : Nat) (999999 : Int32)) ∈ gtb := tc_4 223 (by decide +kernel) rfl
theorem tw_1017 : (Jvm.Cond.methodLink "ConstraintTextModel" (145 : Nat) ({ cls := "ConstraintTextModel", name := "takeWhole", desc := "(II)I" } : Jvm.MethodName)) ∈ gtb := tc_4 224 (by decide +kernel) rfl
theorem tw_1019 : (Jvm.Cond.instanceMethod ({ cls := "ConstraintTextModel", name := "takeWhole", desc := "(II)I" } : Jvm.MethodName)) ∈ gtb := tc_4 226 (by decide +kernel) rfl
theorem tw_1020 : (Jvm.Cond.code ({ cls := "ConstraintTextModel", name := "takeWhole", desc := "(II)I" } : Jvm.MethodName) prog_8_method_14_code (4 : Nat) (Option.some Jvm.ClassFile.FieldType.int)) ∈ gtb := tc_4 227 (by decide +kernel) rfl
theorem tw_1021 : (Jvm.Cond.methodLink "ConstraintTextModel" (110 : Nat) ({ cls := "ConstraintTextModel", name := "whole", desc := "()I" } : Jvm.MethodName)) ∈ gtb := tc_4 228 (by decide +kernel) rfl
theorem tw_1023 : (Jvm.Cond.instanceMethod ({ cls := "ConstraintTextModel", name := "whole", desc := "()I" } : Jvm.MethodName)) ∈ gtb := tc_4 230 (by decide +kernel) rfl
theorem tw_1024 : (Jvm.Cond.code ({ cls := "ConstraintTextModel", name := "whole", desc := "()I" } : Jvm.MethodName) prog_8_method_12_code (4 : Nat) (Option.some Jvm.ClassFile.FieldType.int)) ∈ gtb := tc_4 231 (by decide +kernel) rfl
theorem tw_1025 : (Jvm.Cond.methodLink "ConstraintTextModel" (149 : Nat) ({ cls := "ConstraintTextModel", name := "takePattern", desc := "(IIZ)V" } : Jvm.MethodName)) ∈ gtb := tc_4 232 (by decide +kernel) rfl
theorem tw_1027 : (Jvm.Cond.instanceMethod ({ cls := "ConstraintTextModel", name := "takePattern", desc := "(IIZ)V" } : Jvm.MethodName)) ∈ gtb := tc_4 234 (by decide +kernel) rfl
theorem tw_1028 : (Jvm.Cond.code ({ cls := "ConstraintTextModel", name := "takePattern", desc := "(IIZ)V" } : Jvm.MethodName) prog_8_method_15_code (7 : Nat) (Option.none : Option Jvm.ClassFile.FieldType)) ∈ gtb := tc_4 235 (by decide +kernel) rfl
theorem tw_1029 : (Jvm.Cond.methodLink "ConstraintTextModel" (114 : Nat) ({ cls := "ConstraintTextModel", name := "isPattern", desc := "()Z" } : Jvm.MethodName)) ∈ gtb := tc_4 236 (by decide +kernel) rfl
theorem tw_1031 : (Jvm.Cond.instanceMethod ({ cls := "ConstraintTextModel", name := "isPattern", desc := "()Z" } : Jvm.MethodName)) ∈ gtb := tc_4 238 (by decide +kernel) rfl
theorem tw_1032 : (Jvm.Cond.code ({ cls := "ConstraintTextModel", name := "isPattern", desc := "()Z" } : Jvm.MethodName) prog_8_method_13_code (3 : Nat) (Option.some Jvm.ClassFile.FieldType.boolean)) ∈ gtb := tc_4 239 (by decide +kernel) rfl
theorem tw_1033 : (Jvm.Cond.methodLink "ConstraintTextModel" (163 : Nat) ({ cls := "ConstraintTextModel", name := "readDerived", desc := "(I)V" } : Jvm.MethodName)) ∈ gtb := tc_5 0 (by decide +kernel) rfl
theorem tw_1035 : (Jvm.Cond.instanceMethod ({ cls := "ConstraintTextModel", name := "readDerived", desc := "(I)V" } : Jvm.MethodName)) ∈ gtb := tc_5 2 (by decide +kernel) rfl
theorem tw_1036 : (Jvm.Cond.code ({ cls := "ConstraintTextModel", name := "readDerived", desc := "(I)V" } : Jvm.MethodName) prog_8_method_23_code (2 : Nat) (Option.none : Option Jvm.ClassFile.FieldType)) ∈ gtb := tc_5 3 (by decide +kernel) rfl
theorem tw_1037 : (Jvm.Cond.methodLink "ConstraintTextModel" (153 : Nat) ({ cls := "ConstraintTextModel", name := "takeOld", desc := "(IZ)V" } : Jvm.MethodName)) ∈ gtb := tc_5 4 (by decide +kernel) rfl
theorem tw_1039 : (Jvm.Cond.instanceMethod ({ cls := "ConstraintTextModel", name := "takeOld", desc := "(IZ)V" } : Jvm.MethodName)) ∈ gtb := tc_5 6 (by decide +kernel) rfl
theorem tw_1040 : (Jvm.Cond.code ({ cls := "ConstraintTextModel", name := "takeOld", desc := "(IZ)V" } : Jvm.MethodName) prog_8_method_21_code (5 : Nat) (Option.none : Option Jvm.ClassFile.FieldType)) ∈ gtb := tc_5 7 (by decide +kernel) rfl
theorem tw_1041 : (Jvm.Cond.methodLink "ConstraintTextModel" (166 : Nat) ({ cls := "ConstraintTextModel", name := "readException", desc := "(I)V" } : Jvm.MethodName)) ∈ gtb := tc_5 8 (by decide +kernel) rfl
theorem tw_1043 : (Jvm.Cond.instanceMethod ({ cls := "ConstraintTextModel", name := "readException", desc := "(I)V" } : Jvm.MethodName)) ∈ gtb := tc_5 10 (by decide +kernel) rfl
theorem tw_1044 : (Jvm.Cond.code ({ cls := "ConstraintTextModel", name := "readException", desc := "(I)V" } : Jvm.MethodName) prog_8_method_24_code (4 : Nat) (Option.none : Option Jvm.ClassFile.FieldType)) ∈ gtb := tc_5 11 (by decide +kernel) rfl
theorem tw_1045 : (Jvm.Cond.methodLink "ConstraintTextModel" (169 : Nat) ({ cls := "ConstraintTextModel", name := "takeEnd", desc := "()V" } : Jvm.MethodName)) ∈ gtb := tc_5 12 (by decide +kernel) rfl
theorem tw_1047 : (Jvm.Cond.instanceMethod ({ cls := "ConstraintTextModel", name := "takeEnd", desc := "()V" } : Jvm.MethodName)) ∈ gtb := tc_5 14 (by decide +kernel) rfl
theorem tw_1048 : (Jvm.Cond.code ({ cls := "ConstraintTextModel", name := "takeEnd", desc := "()V" } : Jvm.MethodName) prog_8_method_10_code (1 : Nat) (Option.none : Option Jvm.ClassFile.FieldType)) ∈ gtb := tc_5 15 (by decide +kernel) rfl
theorem tw_1049 : (Jvm.Cond.methodLink "ConstraintTextModel" (190 : Nat) ({ cls := "ConstraintTextModel", name := "unknown", desc := "()I" } : Jvm.MethodName)) ∈ gtb := tc_5 16 (by decide +kernel) rfl
theorem tw_1051 : (Jvm.Cond.instanceMethod ({ cls := "ConstraintTextModel", name := "unknown", desc := "()I" } : Jvm.MethodName)) ∈ gtb := tc_5 18 (by decide +kernel) rfl
theorem tw_1052 : (Jvm.Cond.code ({ cls := "ConstraintTextModel", name := "unknown", desc := "()I" } : Jvm.MethodName) prog_8_method_26_code (3 : Nat) (Option.some Jvm.ClassFile.FieldType.int)) ∈ gtb := tc_5 19 (by decide +kernel) rfl
theorem tw_1053 : (Jvm.Cond.methodLink "ConstraintTextModel" (193 : Nat) ({ cls := "ConstraintTextModel", name := "findFrom", desc := "()V" } : Jvm.MethodName)) ∈ gtb := tc_5 20 (by decide +kernel) rfl
theorem tw_1055 : (Jvm.Cond.instanceMethod ({ cls := "ConstraintTextModel", name := "findFrom", desc := "()V" } : Jvm.MethodName)) ∈ gtb := tc_5 22 (by decide +kernel) rfl
theorem tw_1056 : (Jvm.Cond.code ({ cls := "ConstraintTextModel", name := "findFrom", desc := "()V" } : Jvm.MethodName) prog_8_method_27_code (3 : Nat) (Option.none : Option Jvm.ClassFile.FieldType)) ∈ gtb := tc_5 23 (by decide +kernel) rfl
theorem tw_1057 : (Jvm.Cond.methodLink "ConstraintTextModel" (196 : Nat) ({ cls := "ConstraintTextModel", name := "ring", desc := "()I" } : Jvm.MethodName)) ∈ gtb := tc_5 24 (by decide +kernel) rfl
theorem tw_1059 : (Jvm.Cond.instanceMethod ({ cls := "ConstraintTextModel", name := "ring", desc := "()I" } : Jvm.MethodName)) ∈ gtb := tc_5 26 (by decide +kernel) rfl
theorem tw_1060 : (Jvm.Cond.code ({ cls := "ConstraintTextModel", name := "ring", desc := "()I" } : Jvm.MethodName) prog_8_method_28_code (4 : Nat) (Option.some Jvm.ClassFile.FieldType.int)) ∈ gtb := tc_5 27 (by decide +kernel) rfl
theorem tw_1061 : (Jvm.Cond.methodLink "ConstraintTextModel" (199 : Nat) ({ cls := "ConstraintTextModel", name := "greatOne", desc := "()I" } : Jvm.MethodName)) ∈ gtb := tc_5 28 (by decide +kernel) rfl
theorem tw_1063 : (Jvm.Cond.instanceMethod ({ cls := "ConstraintTextModel", name := "greatOne", desc := "()I" } : Jvm.MethodName)) ∈ gtb := tc_5 30 (by decide +kernel) rfl
theorem tw_1064 : (Jvm.Cond.code ({ cls := "ConstraintTextModel", name := "greatOne", desc := "()I" } : Jvm.MethodName) prog_8_method_32_code (3 : Nat) (Option.some Jvm.ClassFile.FieldType.int)) ∈ gtb := tc_5 31 (by decide +kernel) rfl
theorem tw_1065 : (Jvm.Cond.methodLink "ConstraintTextModel" (180 : Nat) ({ cls := "ConstraintTextModel", name := "depth", desc := "(I)I" } : Jvm.MethodName)) ∈ gtb := tc_5 32 (by decide +kernel) rfl
theorem tw_1067 : (Jvm.Cond.instanceMethod ({ cls := "ConstraintTextModel", name := "depth", desc := "(I)I" } : Jvm.MethodName)) ∈ gtb := tc_5 34 (by decide +kernel) rfl
theorem tw_1068 : (Jvm.Cond.code ({ cls := "ConstraintTextModel", name := "depth", desc := "(I)I" } : Jvm.MethodName) prog_8_method_31_code (4 : Nat) (Option.some Jvm.ClassFile.FieldType.int)) ∈ gtb := tc_5 35 (by decide +kernel) rfl
theorem tw_1069 : (Jvm.Cond.methodLink "ConstraintTextModel" (184 : Nat) ({ cls := "ConstraintTextModel", name := "reckon", desc := "(I)V" } : Jvm.MethodName)) ∈ gtb := tc_5 36 (by decide +kernel) rfl
theorem tw_1071 : (Jvm.Cond.instanceMethod ({ cls := "ConstraintTextModel", name := "reckon", desc := "(I)V" } : Jvm.MethodName)) ∈ gtb := tc_5 38 (by decide +kernel) rfl
theorem tw_1072 : (Jvm.Cond.code ({ cls := "ConstraintTextModel", name := "reckon", desc := "(I)V" } : Jvm.MethodName) prog_8_method_30_code (15 : Nat) (Option.none : Option Jvm.ClassFile.FieldType)) ∈ gtb := tc_5 39 (by decide +kernel) rfl
theorem tw_1073 : (Jvm.Cond.methodLink "ConstraintTextModel" (172 : Nat) ({ cls := "ConstraintTextModel", name := "common", desc := "(JJ)J" } : Jvm.MethodName)) ∈ gtb := tc_5 40 (by decide +kernel) rfl
theorem tw_1074 : (Jvm.Cond.static ({ cls := "ConstraintTextModel", name := "common", desc := "(JJ)J" } : Jvm.MethodName)) ∈ gtb := tc_5 41 (by decide +kernel) rfl
theorem tw_1075 : (Jvm.Cond.code ({ cls := "ConstraintTextModel", name := "common", desc := "(JJ)J" } : Jvm.MethodName) prog_8_method_29_code (10 : Nat) (Option.some Jvm.ClassFile.FieldType.long)) ∈ gtb := tc_5 42 (by decide +kernel) rfl
theorem tw_1076 : (Jvm.Cond.constantLong "ConstraintTextModel" (176 : Nat) (1000000 : Int64)) ∈ gtb := tc_5 43 (by decide +kernel) rfl
theorem tw_1077 : (Jvm.Cond.constantLong "ConstraintTextModel" (178 : Nat) (2 : Int64)) ∈ gtb := tc_5 44 (by decide +kernel) rfl
theorem tw_1078 : (Jvm.Cond.methodLink "ConstraintTextModel" (202 : Nat) ({ cls := "ConstraintTextModel", name := "adopt", desc := "()V" } : Jvm.MethodName)) ∈ gtb := tc_5 45 (by decide +kernel) rfl
theorem tw_1080 : (Jvm.Cond.instanceMethod ({ cls := "ConstraintTextModel", name := "adopt", desc := "()V" } : Jvm.MethodName)) ∈ gtb := tc_5 47 (by decide +kernel) rfl
theorem tw_1081 : (Jvm.Cond.code ({ cls := "ConstraintTextModel", name := "adopt", desc := "()V" } : Jvm.MethodName) prog_8_method_34_code (4 : Nat) (Option.none : Option Jvm.ClassFile.FieldType)) ∈ gtb := tc_5 48 (by decide +kernel) rfl
theorem tw_1082 : (Jvm.Cond.methodLink "ConstraintTextLaw" (78 : Nat) ({ cls := "ConstraintTextModel", name := "clock", desc := "(II)I" } : Jvm.MethodName)) ∈ gtb := tc_5 49 (by decide +kernel) rfl
theorem tw_1083 : (Jvm.Cond.instanceMethod ({ cls := "ConstraintTextModel", name := "clock", desc := "(II)I" } : Jvm.MethodName)) ∈ gtb := tc_5 50 (by decide +kernel) rfl
theorem tw_1084 : (Jvm.Cond.selects "ConstraintTextModel" ({ cls := "ConstraintTextModel", name := "clock", desc := "(II)I" } : Jvm.MethodName) ({ cls := "ConstraintTextModel", name := "clock", desc := "(II)I" } : Jvm.MethodName)) ∈ gtb := tc_5 51 (by decide +kernel) rfl
theorem tw_1085 : (Jvm.Cond.code ({ cls := "ConstraintTextModel", name := "clock", desc := "(II)I" } : Jvm.MethodName) prog_8_method_38_code (3 : Nat) (Option.some Jvm.ClassFile.FieldType.int)) ∈ gtb := tc_5 52 (by decide +kernel) rfl
theorem tw_1086 : (Jvm.Cond.methodLink "ConstraintTextModel" (215 : Nat) ({ cls := "ConstraintTextModel", name := "isClock", desc := "(I)Z" } : Jvm.MethodName)) ∈ gtb := tc_5 53 (by decide +kernel) rfl
theorem tw_1088 : (Jvm.Cond.instanceMethod ({ cls := "ConstraintTextModel", name := "isClock", desc := "(I)Z" } : Jvm.MethodName)) ∈ gtb := tc_5 55 (by decide +kernel) rfl
theorem tw_1089 : (Jvm.Cond.code ({ cls := "ConstraintTextModel", name := "isClock", desc := "(I)Z" } : Jvm.MethodName) prog_8_method_37_code (2 : Nat) (Option.some Jvm.ClassFile.FieldType.boolean)) ∈ gtb := tc_5 56 (by decide +kernel) rfl
theorem tw_1090 : (Jvm.Cond.methodLink "ConstraintTextModel" (218 : Nat) ({ cls := "ConstraintTextModel", name := "matched", desc := "(II)I" } : Jvm.MethodName)) ∈ gtb := tc_5 57 (by decide +kernel) rfl
theorem tw_1092 : (Jvm.Cond.instanceMethod ({ cls := "ConstraintTextModel", name := "matched", desc := "(II)I" } : Jvm.MethodName)) ∈ gtb := tc_5 59 (by decide +kernel) rfl
theorem tw_1093 : (Jvm.Cond.code ({ cls := "ConstraintTextModel", name := "matched", desc := "(II)I" } : Jvm.MethodName) prog_8_method_36_code (5 : Nat) (Option.some Jvm.ClassFile.FieldType.int)) ∈ gtb := tc_5 60 (by decide +kernel) rfl
theorem tw_1094 : (Jvm.Cond.methodLink "ConstraintTextModel" (211 : Nat) ({ cls := "ConstraintTextModel", name := "matches", desc := "(III)Z" } : Jvm.MethodName)) ∈ gtb := tc_5 61 (by decide +kernel) rfl
theorem tw_1096 : (Jvm.Cond.instanceMethod ({ cls := "ConstraintTextModel", name := "matches", desc := "(III)Z" } : Jvm.MethodName)) ∈ gtb := tc_5 63 (by decide +kernel) rfl
theorem tw_1097 : (Jvm.Cond.code ({ cls := "ConstraintTextModel", name := "matches", desc := "(III)Z" } : Jvm.MethodName) prog_8_method_35_code (9 : Nat) (Option.some Jvm.ClassFile.FieldType.boolean)) ∈ gtb := tc_5 64 (by decide +kernel) rfl
theorem tw_1098 : (Jvm.Cond.methodLink "ConstraintTextLaw" (82 : Nat) ({ cls := "ConstraintTextModel", name := "edge", desc := "(III)J" } : Jvm.MethodName)) ∈ gtb := tc_5 65 (by decide +kernel) rfl
theorem tw_1099 : (Jvm.Cond.instanceMethod ({ cls := "ConstraintTextModel", name := "edge", desc := "(III)J" } : Jvm.MethodName)) ∈ gtb := tc_5 66 (by decide +kernel) rfl
theorem tw_1100 : (Jvm.Cond.selects "ConstraintTextModel" ({ cls := "ConstraintTextModel", name := "edge", desc := "(III)J" } : Jvm.MethodName) ({ cls := "ConstraintTextModel", name := "edge", desc := "(III)J" } : Jvm.MethodName)) ∈ gtb := tc_5 67 (by decide +kernel) rfl
theorem tw_1101 : (Jvm.Cond.code ({ cls := "ConstraintTextModel", name := "edge", desc := "(III)J" } : Jvm.MethodName) prog_8_method_40_code (7 : Nat) (Option.some Jvm.ClassFile.FieldType.long)) ∈ gtb := tc_5 68 (by decide +kernel) rfl
theorem tw_1102 : (Jvm.Cond.methodLink "ConstraintTextModel" (221 : Nat) ({ cls := "ConstraintTextModel", name := "part", desc := "(JJI)J" } : Jvm.MethodName)) ∈ gtb := tc_5 69 (by decide +kernel) rfl
theorem tw_1103 : (Jvm.Cond.static ({ cls := "ConstraintTextModel", name := "part", desc := "(JJI)J" } : Jvm.MethodName)) ∈ gtb := tc_5 70 (by decide +kernel) rfl
theorem tw_1104 : (Jvm.Cond.code ({ cls := "ConstraintTextModel", name := "part", desc := "(JJI)J" } : Jvm.MethodName) prog_8_method_39_code (7 : Nat) (Option.some Jvm.ClassFile.FieldType.long)) ∈ gtb := tc_5 71 (by decide +kernel) rfl
theorem tw_1105 : (Jvm.Cond.methodLink "ConstraintTextLaw" (85 : Nat) ({ cls := "ConstraintTextModel", name := "distance", desc := "(III)J" } : Jvm.MethodName)) ∈ gtb := tc_5 72 (by decide +kernel) rfl
theorem tw_1106 : (Jvm.Cond.instanceMethod ({ cls := "ConstraintTextModel", name := "distance", desc := "(III)J" } : Jvm.MethodName)) ∈ gtb := tc_5 73 (by decide +kernel) rfl
theorem tw_1107 : (Jvm.Cond.selects "ConstraintTextModel" ({ cls := "ConstraintTextModel", name := "distance", desc := "(III)J" } : Jvm.MethodName) ({ cls := "ConstraintTextModel", name := "distance", desc := "(III)J" } : Jvm.MethodName)) ∈ gtb := tc_5 74 (by decide +kernel) rfl
theorem tw_1108 : (Jvm.Cond.code ({ cls := "ConstraintTextModel", name := "distance", desc := "(III)J" } : Jvm.MethodName) prog_8_method_42_code (10 : Nat) (Option.some Jvm.ClassFile.FieldType.long)) ∈ gtb := tc_5 75 (by decide +kernel) rfl
theorem tw_1109 : (Jvm.Cond.methodLink "ConstraintTextModel" (225 : Nat) ({ cls := "ConstraintTextModel", name := "areApart", desc := "(II)Z" } : Jvm.MethodName)) ∈ gtb := tc_5 76 (by decide +kernel) rfl
theorem tw_1111 : (Jvm.Cond.instanceMethod ({ cls := "ConstraintTextModel", name := "areApart", desc := "(II)Z" } : Jvm.MethodName)) ∈ gtb := tc_5 78 (by decide +kernel) rfl
theorem tw_1112 : (Jvm.Cond.code ({ cls := "ConstraintTextModel", name := "areApart", desc := "(II)Z" } : Jvm.MethodName) prog_8_method_41_code (9 : Nat) (Option.some Jvm.ClassFile.FieldType.boolean)) ∈ gtb := tc_5 79 (by decide +kernel) rfl
theorem tw_1113 : (Jvm.Cond.methodLink "ConstraintTextLaw" (88 : Nat) ({ cls := "ConstraintTextModel", name := "exception", desc := "(III)I" } : Jvm.MethodName)) ∈ gtb := tc_5 80 (by decide +kernel) rfl
theorem tw_1114 : (Jvm.Cond.instanceMethod ({ cls := "ConstraintTextModel", name := "exception", desc := "(III)I" } : Jvm.MethodName)) ∈ gtb := tc_5 81 (by decide +kernel) rfl
theorem tw_1115 : (Jvm.Cond.selects "ConstraintTextModel" ({ cls := "ConstraintTextModel", name := "exception", desc := "(III)I" } : Jvm.MethodName) ({ cls := "ConstraintTextModel", name := "exception", desc := "(III)I" } : Jvm.MethodName)) ∈ gtb := tc_5 82 (by decide +kernel) rfl
theorem tw_1116 : (Jvm.Cond.code ({ cls := "ConstraintTextModel", name := "exception", desc := "(III)I" } : Jvm.MethodName) prog_8_method_46_code (7 : Nat) (Option.some Jvm.ClassFile.FieldType.int)) ∈ gtb := tc_5 83 (by decide +kernel) rfl
theorem tw_1117 : (Jvm.Cond.methodLink "ConstraintTextModel" (229 : Nat) ({ cls := "ConstraintTextModel", name := "isPin", desc := "(I)Z" } : Jvm.MethodName)) ∈ gtb := tc_5 84 (by decide +kernel) rfl
theorem tw_1118 : (Jvm.Cond.static ({ cls := "ConstraintTextModel", name := "isPin", desc := "(I)Z" } : Jvm.MethodName)) ∈ gtb := tc_5 85 (by decide +kernel) rfl
theorem tw_1119 : (Jvm.Cond.code ({ cls := "ConstraintTextModel", name := "isPin", desc := "(I)Z" } : Jvm.MethodName) prog_8_method_45_code (1 : Nat) (Option.some Jvm.ClassFile.FieldType.boolean)) ∈ gtb := tc_5 86 (by decide +kernel) rfl
theorem tw_1120 : (Jvm.Cond.methodLink "ConstraintTextModel" (232 : Nat) ({ cls := "ConstraintTextModel", name := "fits", desc := "(III)Z" } : Jvm.MethodName)) ∈ gtb := tc_5 87 (by decide +kernel) rfl
theorem tw_1122 : (Jvm.Cond.instanceMethod ({ cls := "ConstraintTextModel", name := "fits", desc := "(III)Z" } : Jvm.MethodName)) ∈ gtb := tc_5 89 (by decide +kernel) rfl
theorem tw_1123 : (Jvm.Cond.code ({ cls := "ConstraintTextModel", name := "fits", desc := "(III)Z" } : Jvm.MethodName) prog_8_method_43_code (4 : Nat) (Option.some Jvm.ClassFile.FieldType.boolean)) ∈ gtb := tc_5 90 (by decide +kernel) rfl
theorem tw_1124 : (Jvm.Cond.methodLink "ConstraintTextModel" (235 : Nat) ({ cls := "ConstraintTextModel", name := "strength", desc := "(I)I" } : Jvm.MethodName)) ∈ gtb := tc_5 91 (by decide +kernel) rfl
theorem tw_1126 : (Jvm.Cond.instanceMethod ({ cls := "ConstraintTextModel", name := "strength", desc := "(I)I" } : Jvm.MethodName)) ∈ gtb := tc_5 93 (by decide +kernel) rfl
theorem tw_1127 : (Jvm.Cond.code ({ cls := "ConstraintTextModel", name := "strength", desc := "(I)I" } : Jvm.MethodName) prog_8_method_44_code (3 : Nat) (Option.some Jvm.ClassFile.FieldType.int)) ∈ gtb := tc_5 94 (by decide +kernel) rfl
theorem tw_1128 : (Jvm.Cond.methodLink "ConstraintTextLaw" (91 : Nat) ({ cls := "ConstraintTextModel", name := "row", desc := "(II)I" } : Jvm.MethodName)) ∈ gtb := tc_5 95 (by decide +kernel) rfl
theorem tw_1129 : (Jvm.Cond.instanceMethod ({ cls := "ConstraintTextModel", name := "row", desc := "(II)I" } : Jvm.MethodName)) ∈ gtb := tc_5 96 (by decide +kernel) rfl
theorem tw_1130 : (Jvm.Cond.selects "ConstraintTextModel" ({ cls := "ConstraintTextModel", name := "row", desc := "(II)I" } : Jvm.MethodName) ({ cls := "ConstraintTextModel", name := "row", desc := "(II)I" } : Jvm.MethodName)) ∈ gtb := tc_5 97 (by decide +kernel) rfl
theorem tw_1131 : (Jvm.Cond.code ({ cls := "ConstraintTextModel", name := "row", desc := "(II)I" } : Jvm.MethodName) prog_8_method_47_code (4 : Nat) (Option.some Jvm.ClassFile.FieldType.int)) ∈ gtb := tc_5 98 (by decide +kernel) rfl
theorem tw_1132 : (Jvm.Cond.methodLink "ConstraintTextLaw" (94 : Nat) ({ cls := "ConstraintTextModel", name := "load", desc := "(II)I" } : Jvm.MethodName)) ∈ gtb := tc_5 99 (by decide +kernel) rfl
theorem tw_1133 : (Jvm.Cond.instanceMethod ({ cls := "ConstraintTextModel", name := "load", desc := "(II)I" } : Jvm.MethodName)) ∈ gtb := tc_5 100 (by decide +kernel) rfl
theorem tw_1134 : (Jvm.Cond.selects "ConstraintTextModel" ({ cls := "ConstraintTextModel", name := "load", desc := "(II)I" } : Jvm.MethodName) ({ cls := "ConstraintTextModel", name := "load", desc := "(II)I" } : Jvm.MethodName)) ∈ gtb := tc_5 101 (by decide +kernel) rfl
theorem tw_1135 : (Jvm.Cond.code ({ cls := "ConstraintTextModel", name := "load", desc := "(II)I" } : Jvm.MethodName) prog_8_method_48_code (5 : Nat) (Option.some Jvm.ClassFile.FieldType.int)) ∈ gtb := tc_5 102 (by decide +kernel) rfl
theorem tw_1136 : (Jvm.Cond.methodLink "ConstraintTextLaw" (98 : Nat) ({ cls := "ConstraintTextModel", name := "unmatched", desc := "(I)I" } : Jvm.MethodName)) ∈ gtb := tc_5 103 (by decide +kernel) rfl
theorem tw_1137 : (Jvm.Cond.instanceMethod ({ cls := "ConstraintTextModel", name := "unmatched", desc := "(I)I" } : Jvm.MethodName)) ∈ gtb := tc_5 104 (by decide +kernel) rfl
theorem tw_1138 : (Jvm.Cond.selects "ConstraintTextModel" ({ cls := "ConstraintTextModel", name := "unmatched", desc := "(I)I" } : Jvm.MethodName) ({ cls := "ConstraintTextModel", name := "unmatched", desc := "(I)I" } : Jvm.MethodName)) ∈ gtb := tc_5 105 (by decide +kernel) rfl
theorem tw_1139 : (Jvm.Cond.code ({ cls := "ConstraintTextModel", name := "unmatched", desc := "(I)I" } : Jvm.MethodName) prog_8_method_50_code (4 : Nat) (Option.some Jvm.ClassFile.FieldType.int)) ∈ gtb := tc_5 106 (by decide +kernel) rfl
theorem tw_1140 : (Jvm.Cond.methodLink "ConstraintTextModel" (238 : Nat) ({ cls := "ConstraintTextModel", name := "isUnmatched", desc := "(I)Z" } : Jvm.MethodName)) ∈ gtb := tc_5 107 (by decide +kernel) rfl
theorem tw_1142 : (Jvm.Cond.instanceMethod ({ cls := "ConstraintTextModel", name := "isUnmatched", desc := "(I)Z" } : Jvm.MethodName)) ∈ gtb := tc_5 109 (by decide +kernel) rfl
theorem tw_1143 : (Jvm.Cond.code ({ cls := "ConstraintTextModel", name := "isUnmatched", desc := "(I)Z" } : Jvm.MethodName) prog_8_method_49_code (4 : Nat) (Option.some Jvm.ClassFile.FieldType.boolean)) ∈ gtb := tc_5 110 (by decide +kernel) rfl
theorem tw_1144 : (Jvm.Cond.methodLink "ConstraintTextLaw" (101 : Nat) ({ cls := "ConstraintTextModel", name := "clash", desc := "(II)I" } : Jvm.MethodName)) ∈ gtb := tc_5 111 (by decide +kernel) rfl
theorem tw_1145 : (Jvm.Cond.instanceMethod ({ cls := "ConstraintTextModel", name := "clash", desc := "(II)I" } : Jvm.MethodName)) ∈ gtb := tc_5 112 (by decide +kernel) rfl
theorem tw_1146 : (Jvm.Cond.selects "ConstraintTextModel" ({ cls := "ConstraintTextModel", name := "clash", desc := "(II)I" } : Jvm.MethodName) ({ cls := "ConstraintTextModel", name := "clash", desc := "(II)I" } : Jvm.MethodName)) ∈ gtb := tc_5 113 (by decide +kernel) rfl
theorem tw_1147 : (Jvm.Cond.code ({ cls := "ConstraintTextModel", name := "clash", desc := "(II)I" } : Jvm.MethodName) prog_8_method_52_code (6 : Nat) (Option.some Jvm.ClassFile.FieldType.int)) ∈ gtb := tc_5 114 (by decide +kernel) rfl
theorem tw_1148 : (Jvm.Cond.methodLink "ConstraintTextModel" (241 : Nat) ({ cls := "ConstraintTextModel", name := "areClashing", desc := "(II)Z" } : Jvm.MethodName)) ∈ gtb := tc_5 115 (by decide +kernel) rfl
theorem tw_1150 : (Jvm.Cond.instanceMethod ({ cls := "ConstraintTextModel", name := "areClashing", desc := "(II)Z" } : Jvm.MethodName)) ∈ gtb := tc_5 117 (by decide +kernel) rfl
theorem tw_1151 : (Jvm.Cond.code ({ cls := "ConstraintTextModel", name := "areClashing", desc := "(II)Z" } : Jvm.MethodName) prog_8_method_51_code (6 : Nat) (Option.some Jvm.ClassFile.FieldType.boolean)) ∈ gtb := tc_5 118 (by decide +kernel) rfl
theorem tw_1152 : (Jvm.Cond.methodLink "ConstraintTextLaw" (104 : Nat) ({ cls := "ConstraintTextModel", name := "write", desc := "(I)I" } : Jvm.MethodName)) ∈ gtb := tc_5 119 (by decide +kernel) rfl
theorem tw_1153 : (Jvm.Cond.instanceMethod ({ cls := "ConstraintTextModel", name := "write", desc := "(I)I" } : Jvm.MethodName)) ∈ gtb := tc_5 120 (by decide +kernel) rfl
theorem tw_1154 : (Jvm.Cond.selects "ConstraintTextModel" ({ cls := "ConstraintTextModel", name := "write", desc := "(I)I" } : Jvm.MethodName) ({ cls := "ConstraintTextModel", name := "write", desc := "(I)I" } : Jvm.MethodName)) ∈ gtb := tc_5 121 (by decide +kernel) rfl
theorem tw_1155 : (Jvm.Cond.code ({ cls := "ConstraintTextModel", name := "write", desc := "(I)I" } : Jvm.MethodName) prog_8_method_59_code (2 : Nat) (Option.some Jvm.ClassFile.FieldType.int)) ∈ gtb := tc_5 122 (by decide +kernel) rfl
theorem tw_1156 : (Jvm.Cond.methodLink "ConstraintTextModel" (272 : Nat) ({ cls := "ConstraintTextModel", name := "printAll", desc := "(I)V" } : Jvm.MethodName)) ∈ gtb := tc_5 123 (by decide +kernel) rfl
theorem tw_1158 : (Jvm.Cond.instanceMethod ({ cls := "ConstraintTextModel", name := "printAll", desc := "(I)V" } : Jvm.MethodName)) ∈ gtb := tc_5 125 (by decide +kernel) rfl
theorem tw_1159 : (Jvm.Cond.code ({ cls := "ConstraintTextModel", name := "printAll", desc := "(I)V" } : Jvm.MethodName) prog_8_method_58_code (3 : Nat) (Option.none : Option Jvm.ClassFile.FieldType)) ∈ gtb := tc_5 126 (by decide +kernel) rfl
theorem tw_1160 : (Jvm.Cond.methodLink "ConstraintTextModel" (269 : Nat) ({ cls := "ConstraintTextModel", name := "print", desc := "(I)V" } : Jvm.MethodName)) ∈ gtb := tc_5 127 (by decide +kernel) rfl
theorem tw_1162 : (Jvm.Cond.instanceMethod ({ cls := "ConstraintTextModel", name := "print", desc := "(I)V" } : Jvm.MethodName)) ∈ gtb := tc_5 129 (by decide +kernel) rfl
theorem tw_1163 : (Jvm.Cond.code ({ cls := "ConstraintTextModel", name := "print", desc := "(I)V" } : Jvm.MethodName) prog_8_method_57_code (4 : Nat) (Option.none : Option Jvm.ClassFile.FieldType)) ∈ gtb := tc_5 130 (by decide +kernel) rfl
theorem tw_1164 : (Jvm.Cond.methodLink "ConstraintTextModel" (258 : Nat) ({ cls := "ConstraintTextModel", name := "putWord", desc := "(J)V" } : Jvm.MethodName)) ∈ gtb := tc_5 131 (by decide +kernel) rfl
theorem tw_1166 : (Jvm.Cond.instanceMethod ({ cls := "ConstraintTextModel", name := "putWord", desc := "(J)V" } : Jvm.MethodName)) ∈ gtb := tc_5 133 (by decide +kernel) rfl
theorem tw_1167 : (Jvm.Cond.code ({ cls := "ConstraintTextModel", name := "putWord", desc := "(J)V" } : Jvm.MethodName) prog_8_method_54_code (7 : Nat) (Option.none : Option Jvm.ClassFile.FieldType)) ∈ gtb := tc_5 134 (by decide +kernel) rfl
theorem tw_1168 : (Jvm.Cond.constantLong "ConstraintTextModel" (253 : Nat) (26 : Int64)) ∈ gtb := tc_5 135 (by decide +kernel) rfl
theorem tw_1169 : (Jvm.Cond.methodLink "ConstraintTextModel" (255 : Nat) ({ cls := "ConstraintTextModel", name := "put", desc := "(I)V" } : Jvm.MethodName)) ∈ gtb := tc_5 136 (by decide +kernel) rfl
theorem tw_1171 : (Jvm.Cond.instanceMethod ({ cls := "ConstraintTextModel", name := "put", desc := "(I)V" } : Jvm.MethodName)) ∈ gtb := tc_5 138 (by decide +kernel) rfl
theorem tw_1172 : (Jvm.Cond.code ({ cls := "ConstraintTextModel", name := "put", desc := "(I)V" } : Jvm.MethodName) prog_8_method_53_code (2 : Nat) (Option.none : Option Jvm.ClassFile.FieldType)) ∈ gtb := tc_5 139 (by decide +kernel) rfl
theorem tw_1173 : (Jvm.Cond.methodLink "ConstraintTextModel" (262 : Nat) ({ cls := "ConstraintTextModel", name := "putWhole", desc := "(I)V" } : Jvm.MethodName)) ∈ gtb := tc_5 140 (by decide +kernel) rfl
theorem tw_1175 : (Jvm.Cond.instanceMethod ({ cls := "ConstraintTextModel", name := "putWhole", desc := "(I)V" } : Jvm.MethodName)) ∈ gtb := tc_5 142 (by decide +kernel) rfl
theorem tw_1176 : (Jvm.Cond.code ({ cls := "ConstraintTextModel", name := "putWhole", desc := "(I)V" } : Jvm.MethodName) prog_8_method_55_code (4 : Nat) (Option.none : Option Jvm.ClassFile.FieldType)) ∈ gtb := tc_5 143 (by decide +kernel) rfl
theorem tw_1177 : (Jvm.Cond.methodLink "ConstraintTextModel" (265 : Nat) ({ cls := "ConstraintTextModel", name := "putPattern", desc := "(II)V" } : Jvm.MethodName)) ∈ gtb := tc_5 144 (by decide +kernel) rfl
theorem tw_1179 : (Jvm.Cond.instanceMethod ({ cls := "ConstraintTextModel", name := "putPattern", desc := "(II)V" } : Jvm.MethodName)) ∈ gtb := tc_5 146 (by decide +kernel) rfl
theorem tw_1180 : (Jvm.Cond.code ({ cls := "ConstraintTextModel", name := "putPattern", desc := "(II)V" } : Jvm.MethodName) prog_8_method_56_code (5 : Nat) (Option.none : Option Jvm.ClassFile.FieldType)) ∈ gtb := tc_5 147 (by decide +kernel) rfl
theorem tw_1181 : (Jvm.Cond.methodLink "ConstraintTextLaw" (107 : Nat) ({ cls := "ConstraintTextModel", name := "count", desc := "(I)I" } : Jvm.MethodName)) ∈ gtb := tc_5 148 (by decide +kernel) rfl
theorem tw_1182 : (Jvm.Cond.instanceMethod ({ cls := "ConstraintTextModel", name := "count", desc := "(I)I" } : Jvm.MethodName)) ∈ gtb := tc_5 149 (by decide +kernel) rfl
theorem tw_1183 : (Jvm.Cond.selects "ConstraintTextModel" ({ cls := "ConstraintTextModel", name := "count", desc := "(I)I" } : Jvm.MethodName) ({ cls := "ConstraintTextModel", name := "count", desc := "(I)I" } : Jvm.MethodName)) ∈ gtb := tc_5 150 (by decide +kernel) rfl
theorem tw_1184 : (Jvm.Cond.code ({ cls := "ConstraintTextModel", name := "count", desc := "(I)I" } : Jvm.MethodName) prog_8_method_60_code (2 : Nat) (Option.some Jvm.ClassFile.FieldType.int)) ∈ gtb := tc_5 151 (by decide +kernel) rfl
theorem tw_1185 : (Jvm.Cond.sameMethod "java/lang/Throwable" "java/lang/Throwable" "fillInStackTrace" "(I)Ljava/lang/Throwable;") ∈ gtb := tc_5 152 (by decide +kernel) rfl
theorem tw_1186 : (Jvm.Cond.fieldLink "java/lang/String" (9 : Nat) "java/lang/String" "value" "[B") ∈ gtb := tc_5 153 (by decide +kernel) rfl
theorem tw_1187 : (Jvm.Cond.fieldLink "java/lang/String" (15 : Nat) "java/lang/String" "coder" "B") ∈ gtb := tc_5 154 (by decide +kernel) rfl
