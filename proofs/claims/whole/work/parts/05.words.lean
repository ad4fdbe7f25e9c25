/-- the tables' words that every road keeps: one list for all methods -/
def gtbl : List Cond := lw_tbl.filter goodWord
theorem gt_mem {w : Cond} (h : w ∈ lw_tbl) (g : goodWord w = true) : w ∈ gtbl := List.mem_filter.mpr ⟨h, g⟩
theorem gt_good : GoodIn gtbl gtbl := fun w h => ⟨h, good_of_word (List.mem_filter.mp h).2⟩
theorem gt_in {w : Cond} (h : w ∈ gtbl) : w ∈ lw_tbl := (List.mem_filter.mp h).1
theorem gt_t {w : Cond} {k : Nat} (h : tables_1[k]? = some w) (g : goodWord w = true) : w ∈ gtbl := gt_mem (List.mem_append_right _ (List.mem_of_getElem? h)) g
theorem tw_0 : (Jvm.Cond.initialized "RealDeskLaw") ∈ gtbl := gt_t (k := 0) rfl rfl
theorem tw_1 : (Jvm.Cond.initialized "RealDesk") ∈ gtbl := gt_t (k := 1) rfl rfl
theorem tw_2 : (Jvm.Cond.initialized "RealDeskModel") ∈ gtbl := gt_t (k := 2) rfl rfl
theorem tw_3 : (Jvm.Cond.initialized "RealDeskModel$Big") ∈ gtbl := gt_t (k := 3) rfl rfl
theorem tw_4 : (Jvm.Cond.initialized "java/lang/Throwable") ∈ gtbl := gt_t (k := 4) rfl rfl
theorem tw_5 : (Jvm.Cond.initialized "java/lang/Exception") ∈ gtbl := gt_t (k := 5) rfl rfl
theorem tw_6 : (Jvm.Cond.initialized "java/lang/RuntimeException") ∈ gtbl := gt_t (k := 6) rfl rfl
theorem tw_7 : (Jvm.Cond.initialized "java/lang/IllegalArgumentException") ∈ gtbl := gt_t (k := 7) rfl rfl
theorem tw_8 : (Jvm.Cond.initialized "java/lang/Math") ∈ gtbl := gt_t (k := 8) rfl rfl
theorem tw_9 : (Jvm.Cond.initialized "java/lang/Long") ∈ gtbl := gt_t (k := 9) rfl rfl
theorem tw_10 : (Jvm.Cond.initialized "java/lang/Integer") ∈ gtbl := gt_t (k := 10) rfl rfl
theorem tw_11 : (Jvm.Cond.initialized "java/lang/IllegalStateException") ∈ gtbl := gt_t (k := 11) rfl rfl
theorem tw_12 : (Jvm.Cond.classLink "RealDeskLaw" (8 : Nat) "RealDesk") ∈ gtbl := gt_t (k := 12) rfl rfl
theorem tw_13 : (Jvm.Cond.instantiable "RealDesk" (1 : Nat)) ∈ gtbl := gt_t (k := 13) rfl rfl
theorem tw_14 : (Jvm.Cond.methodLink "RealDeskLaw" (47 : Nat) ({ cls := "RealDesk", name := "<init>", desc := "()V" } : Jvm.MethodName)) ∈ gtbl := gt_t (k := 14) rfl rfl
theorem tw_15 : (Jvm.Cond.instanceMethod ({ cls := "RealDesk", name := "<init>", desc := "()V" } : Jvm.MethodName)) ∈ gtbl := gt_t (k := 15) rfl rfl
theorem tw_16 : (Jvm.Cond.code ({ cls := "RealDesk", name := "<init>", desc := "()V" } : Jvm.MethodName) prog_1_method_1_code (1 : Nat) (Option.none : Option Jvm.ClassFile.FieldType)) ∈ gtbl := gt_t (k := 16) rfl rfl
theorem tw_17 : (Jvm.Cond.methodLink "RealDesk" (1 : Nat) ({ cls := "java/lang/Object", name := "<init>", desc := "()V" } : Jvm.MethodName)) ∈ gtbl := gt_t (k := 17) rfl rfl
theorem tw_18 : (Jvm.Cond.instanceMethod ({ cls := "java/lang/Object", name := "<init>", desc := "()V" } : Jvm.MethodName)) ∈ gtbl := gt_t (k := 18) rfl rfl
theorem tw_19 : (Jvm.Cond.code ({ cls := "java/lang/Object", name := "<init>", desc := "()V" } : Jvm.MethodName) object_method_1_code (1 : Nat) (Option.none : Option Jvm.ClassFile.FieldType)) ∈ gtbl := gt_t (k := 19) rfl rfl
theorem tw_20 : (Jvm.Cond.fieldLink "RealDesk" (9 : Nat) "RealDesk" "ranks" "[J") ∈ gtbl := gt_t (k := 20) rfl rfl
theorem tw_21 : (Jvm.Cond.laysFinal "RealDesk" "RealDesk" "ranks" "[J") ∈ gtbl := gt_t (k := 21) rfl rfl
theorem tw_22 : (Jvm.Cond.soleField "RealDesk" "ranks") ∈ gtbl := gt_t (k := 22) rfl rfl
theorem tw_23 : (Jvm.Cond.superclass "RealDesk" "java/lang/Object") ∈ gtbl := gt_t (k := 23) rfl rfl
theorem tw_24 : (Jvm.Cond.arrayClass Jvm.ClassFile.FieldType.long) ∈ gtbl := gt_t (k := 24) rfl rfl
theorem tw_25 : (Jvm.Cond.methodLink "RealDeskLaw" (53 : Nat) ({ cls := "RealDeskLaw", name := "set", desc := "(LRealDesk;IJI[J)I" } : Jvm.MethodName)) ∈ gtbl := gt_t (k := 25) rfl rfl
theorem tw_26 : (Jvm.Cond.static ({ cls := "RealDeskLaw", name := "set", desc := "(LRealDesk;IJI[J)I" } : Jvm.MethodName)) ∈ gtbl := gt_t (k := 26) rfl rfl
theorem tw_27 : (Jvm.Cond.codeWith ({ cls := "RealDeskLaw", name := "set", desc := "(LRealDesk;IJI[J)I" } : Jvm.MethodName) method_3_code (7 : Nat) (Option.some Jvm.ClassFile.FieldType.int) [((0 : Nat), (13 : Nat), (16 : Nat), (13 : Nat))]) ∈ gtbl := gt_t (k := 27) rfl rfl
theorem tw_28 : (Jvm.Cond.classLink "RealDeskLaw" (13 : Nat) "java/lang/IllegalArgumentException") ∈ gtbl := gt_t (k := 28) rfl rfl
theorem tw_29 : (Jvm.Cond.methodLink "RealDeskLaw" (7 : Nat) ({ cls := "RealDesk", name := "set", desc := "(IJI)I" } : Jvm.MethodName)) ∈ gtbl := gt_t (k := 29) rfl rfl
theorem tw_30 : (Jvm.Cond.instanceMethod ({ cls := "RealDesk", name := "set", desc := "(IJI)I" } : Jvm.MethodName)) ∈ gtbl := gt_t (k := 30) rfl rfl
theorem tw_31 : (Jvm.Cond.selects "RealDesk" ({ cls := "RealDesk", name := "set", desc := "(IJI)I" } : Jvm.MethodName) ({ cls := "RealDesk", name := "set", desc := "(IJI)I" } : Jvm.MethodName)) ∈ gtbl := gt_t (k := 31) rfl rfl
theorem tw_32 : (Jvm.Cond.code ({ cls := "RealDesk", name := "set", desc := "(IJI)I" } : Jvm.MethodName) prog_1_method_2_code (5 : Nat) (Option.some Jvm.ClassFile.FieldType.int)) ∈ gtbl := gt_t (k := 32) rfl rfl
theorem tw_33 : (Jvm.Cond.methodLink "RealDesk" (13 : Nat) ({ cls := "RealDesk", name := "requireRegister", desc := "(I)V" } : Jvm.MethodName)) ∈ gtbl := gt_t (k := 33) rfl rfl
theorem tw_34 : (Jvm.Cond.static ({ cls := "RealDesk", name := "requireRegister", desc := "(I)V" } : Jvm.MethodName)) ∈ gtbl := gt_t (k := 34) rfl rfl
theorem tw_35 : (Jvm.Cond.code ({ cls := "RealDesk", name := "requireRegister", desc := "(I)V" } : Jvm.MethodName) prog_1_method_11_code (1 : Nat) (Option.none : Option Jvm.ClassFile.FieldType)) ∈ gtbl := gt_t (k := 35) rfl rfl
theorem tw_36 : (Jvm.Cond.classLink "RealDesk" (21 : Nat) "java/lang/IllegalArgumentException") ∈ gtbl := gt_t (k := 36) rfl rfl
theorem tw_37 : (Jvm.Cond.instantiable "java/lang/IllegalArgumentException" (6 : Nat)) ∈ gtbl := gt_t (k := 37) rfl rfl
theorem tw_45 : (Jvm.Cond.selects "java/lang/IllegalArgumentException" ({ cls := "java/lang/Throwable", name := "fillInStackTrace", desc := "(I)Ljava/lang/Throwable;" } : Jvm.MethodName) ({ cls := "java/lang/Throwable", name := "fillInStackTrace", desc := "(I)Ljava/lang/Throwable;" } : Jvm.MethodName)) ∈ gtbl := gt_t (k := 45) rfl rfl
theorem tw_46 : (Jvm.Cond.selects "java/lang/IllegalArgumentException" ({ cls := "java/lang/Throwable", name := "fillInStackTrace", desc := "()Ljava/lang/Throwable;" } : Jvm.MethodName) ({ cls := "java/lang/Throwable", name := "fillInStackTrace", desc := "()Ljava/lang/Throwable;" } : Jvm.MethodName)) ∈ gtbl := gt_t (k := 46) rfl rfl
theorem tw_47 : (Jvm.Cond.lays "java/lang/IllegalArgumentException" "java/lang/Throwable" "cause" "Ljava/lang/Throwable;") ∈ gtbl := gt_t (k := 47) rfl rfl
theorem tw_48 : (Jvm.Cond.lays "java/lang/Throwable" "java/lang/Throwable" "cause" "Ljava/lang/Throwable;") ∈ gtbl := gt_t (k := 48) rfl rfl
theorem tw_49 : (Jvm.Cond.lays "java/lang/IllegalArgumentException" "java/lang/Throwable" "stackTrace" "[Ljava/lang/StackTraceElement;") ∈ gtbl := gt_t (k := 49) rfl rfl
theorem tw_50 : (Jvm.Cond.lays "java/lang/Throwable" "java/lang/Throwable" "stackTrace" "[Ljava/lang/StackTraceElement;") ∈ gtbl := gt_t (k := 50) rfl rfl
theorem tw_51 : (Jvm.Cond.lays "java/lang/IllegalArgumentException" "java/lang/Throwable" "suppressedExceptions" "Ljava/util/List;") ∈ gtbl := gt_t (k := 51) rfl rfl
theorem tw_52 : (Jvm.Cond.lays "java/lang/Throwable" "java/lang/Throwable" "suppressedExceptions" "Ljava/util/List;") ∈ gtbl := gt_t (k := 52) rfl rfl
theorem tw_53 : (Jvm.Cond.lays "java/lang/IllegalArgumentException" "java/lang/Throwable" "detailMessage" "Ljava/lang/String;") ∈ gtbl := gt_t (k := 53) rfl rfl
theorem tw_54 : (Jvm.Cond.lays "java/lang/Throwable" "java/lang/Throwable" "detailMessage" "Ljava/lang/String;") ∈ gtbl := gt_t (k := 54) rfl rfl
theorem tw_55 : (Jvm.Cond.lays "java/lang/IllegalArgumentException" "java/lang/Throwable" "backtrace" "Ljava/lang/Object;") ∈ gtbl := gt_t (k := 55) rfl rfl
theorem tw_56 : (Jvm.Cond.lays "java/lang/Throwable" "java/lang/Throwable" "backtrace" "Ljava/lang/Object;") ∈ gtbl := gt_t (k := 56) rfl rfl
theorem tw_57 : (Jvm.Cond.fieldLink "java/lang/Throwable" (198 : Nat) "java/lang/Throwable" "backtrace" "Ljava/lang/Object;") ∈ gtbl := gt_t (k := 57) rfl rfl
theorem tw_58 : (Jvm.Cond.superclass "java/lang/Throwable" "java/lang/Object") ∈ gtbl := gt_t (k := 58) rfl rfl
theorem tw_59 : (Jvm.Cond.instanceMethod ({ cls := "java/lang/Throwable", name := "<init>", desc := "()V" } : Jvm.MethodName)) ∈ gtbl := gt_t (k := 59) rfl rfl
theorem tw_60 : (Jvm.Cond.code ({ cls := "java/lang/Throwable", name := "<init>", desc := "()V" } : Jvm.MethodName) prog_13_method_1_code (1 : Nat) (Option.none : Option Jvm.ClassFile.FieldType)) ∈ gtbl := gt_t (k := 60) rfl rfl
theorem tw_61 : (Jvm.Cond.methodLink "java/lang/Throwable" (1 : Nat) ({ cls := "java/lang/Object", name := "<init>", desc := "()V" } : Jvm.MethodName)) ∈ gtbl := gt_t (k := 61) rfl rfl
theorem tw_62 : (Jvm.Cond.fieldLink "java/lang/Throwable" (13 : Nat) "java/lang/Throwable" "UNASSIGNED_STACK" "[Ljava/lang/StackTraceElement;") ∈ gtbl := gt_t (k := 62) rfl rfl
theorem tw_64 : (Jvm.Cond.fieldLink "java/lang/Throwable" (20 : Nat) "java/lang/Throwable" "SUPPRESSED_SENTINEL" "Ljava/util/List;") ∈ gtbl := gt_t (k := 64) rfl rfl
theorem tw_66 : (Jvm.Cond.methodLink "java/lang/Throwable" (27 : Nat) ({ cls := "java/lang/Throwable", name := "fillInStackTrace", desc := "()Ljava/lang/Throwable;" } : Jvm.MethodName)) ∈ gtbl := gt_t (k := 66) rfl rfl
theorem tw_67 : (Jvm.Cond.instanceMethod ({ cls := "java/lang/Throwable", name := "fillInStackTrace", desc := "()Ljava/lang/Throwable;" } : Jvm.MethodName)) ∈ gtbl := gt_t (k := 67) rfl rfl
theorem tw_69 : (Jvm.Cond.selects "java/lang/IllegalStateException" ({ cls := "java/lang/Throwable", name := "fillInStackTrace", desc := "()Ljava/lang/Throwable;" } : Jvm.MethodName) ({ cls := "java/lang/Throwable", name := "fillInStackTrace", desc := "()Ljava/lang/Throwable;" } : Jvm.MethodName)) ∈ gtbl := gt_t (k := 69) rfl rfl
theorem tw_71 : (Jvm.Cond.methodLink "java/lang/Throwable" (202 : Nat) ({ cls := "java/lang/Throwable", name := "fillInStackTrace", desc := "(I)Ljava/lang/Throwable;" } : Jvm.MethodName)) ∈ gtbl := gt_t (k := 71) rfl rfl
theorem tw_73 : (Jvm.Cond.instanceMethod ({ cls := "java/lang/Throwable", name := "fillInStackTrace", desc := "(I)Ljava/lang/Throwable;" } : Jvm.MethodName)) ∈ gtbl := gt_t (k := 73) rfl rfl
theorem tw_74 : (Jvm.Cond.instantiable "java/lang/Throwable" (6 : Nat)) ∈ gtbl := gt_t (k := 74) rfl rfl
theorem tw_77 : (Jvm.Cond.methodLink "RealDesk" (25 : Nat) ({ cls := "java/lang/IllegalArgumentException", name := "<init>", desc := "(Ljava/lang/String;)V" } : Jvm.MethodName)) ∈ gtbl := gt_t (k := 77) rfl rfl
theorem tw_78 : (Jvm.Cond.instanceMethod ({ cls := "java/lang/IllegalArgumentException", name := "<init>", desc := "(Ljava/lang/String;)V" } : Jvm.MethodName)) ∈ gtbl := gt_t (k := 78) rfl rfl
theorem tw_79 : (Jvm.Cond.code ({ cls := "java/lang/IllegalArgumentException", name := "<init>", desc := "(Ljava/lang/String;)V" } : Jvm.MethodName) prog_6_method_2_code (2 : Nat) (Option.none : Option Jvm.ClassFile.FieldType)) ∈ gtbl := gt_t (k := 79) rfl rfl
theorem tw_80 : (Jvm.Cond.methodLink "java/lang/IllegalArgumentException" (7 : Nat) ({ cls := "java/lang/RuntimeException", name := "<init>", desc := "(Ljava/lang/String;)V" } : Jvm.MethodName)) ∈ gtbl := gt_t (k := 80) rfl rfl
theorem tw_81 : (Jvm.Cond.instanceMethod ({ cls := "java/lang/RuntimeException", name := "<init>", desc := "(Ljava/lang/String;)V" } : Jvm.MethodName)) ∈ gtbl := gt_t (k := 81) rfl rfl
theorem tw_82 : (Jvm.Cond.code ({ cls := "java/lang/RuntimeException", name := "<init>", desc := "(Ljava/lang/String;)V" } : Jvm.MethodName) prog_11_method_2_code (2 : Nat) (Option.none : Option Jvm.ClassFile.FieldType)) ∈ gtbl := gt_t (k := 82) rfl rfl
theorem tw_83 : (Jvm.Cond.methodLink "java/lang/RuntimeException" (7 : Nat) ({ cls := "java/lang/Exception", name := "<init>", desc := "(Ljava/lang/String;)V" } : Jvm.MethodName)) ∈ gtbl := gt_t (k := 83) rfl rfl
theorem tw_84 : (Jvm.Cond.instanceMethod ({ cls := "java/lang/Exception", name := "<init>", desc := "(Ljava/lang/String;)V" } : Jvm.MethodName)) ∈ gtbl := gt_t (k := 84) rfl rfl
theorem tw_85 : (Jvm.Cond.code ({ cls := "java/lang/Exception", name := "<init>", desc := "(Ljava/lang/String;)V" } : Jvm.MethodName) prog_5_method_2_code (2 : Nat) (Option.none : Option Jvm.ClassFile.FieldType)) ∈ gtbl := gt_t (k := 85) rfl rfl
theorem tw_86 : (Jvm.Cond.methodLink "java/lang/Exception" (7 : Nat) ({ cls := "java/lang/Throwable", name := "<init>", desc := "(Ljava/lang/String;)V" } : Jvm.MethodName)) ∈ gtbl := gt_t (k := 86) rfl rfl
theorem tw_87 : (Jvm.Cond.instanceMethod ({ cls := "java/lang/Throwable", name := "<init>", desc := "(Ljava/lang/String;)V" } : Jvm.MethodName)) ∈ gtbl := gt_t (k := 87) rfl rfl
theorem tw_88 : (Jvm.Cond.code ({ cls := "java/lang/Throwable", name := "<init>", desc := "(Ljava/lang/String;)V" } : Jvm.MethodName) prog_13_method_2_code (2 : Nat) (Option.none : Option Jvm.ClassFile.FieldType)) ∈ gtbl := gt_t (k := 88) rfl rfl
theorem tw_89 : (Jvm.Cond.fieldLink "java/lang/Throwable" (198 : Nat) "java/lang/Throwable" "backtrace" "Ljava/lang/Object;") ∈ gtbl := gt_t (k := 89) rfl rfl
theorem tw_90 : (Jvm.Cond.fieldLink "java/lang/Throwable" (31 : Nat) "java/lang/Throwable" "detailMessage" "Ljava/lang/String;") ∈ gtbl := gt_t (k := 90) rfl rfl
theorem tw_91 : (Jvm.Cond.fieldLink "java/lang/Throwable" (7 : Nat) "java/lang/Throwable" "cause" "Ljava/lang/Throwable;") ∈ gtbl := gt_t (k := 91) rfl rfl
theorem tw_92 : (Jvm.Cond.fieldLink "java/lang/Throwable" (17 : Nat) "java/lang/Throwable" "stackTrace" "[Ljava/lang/StackTraceElement;") ∈ gtbl := gt_t (k := 92) rfl rfl
theorem tw_93 : (Jvm.Cond.fieldLink "java/lang/Throwable" (24 : Nat) "java/lang/Throwable" "suppressedExceptions" "Ljava/util/List;") ∈ gtbl := gt_t (k := 93) rfl rfl
theorem tw_94 : (Jvm.Cond.soleField "java/lang/Throwable" "backtrace") ∈ gtbl := gt_t (k := 94) rfl rfl
theorem tw_95 : (Jvm.Cond.soleField "java/lang/Throwable" "detailMessage") ∈ gtbl := gt_t (k := 95) rfl rfl
theorem tw_96 : (Jvm.Cond.soleField "java/lang/Throwable" "cause") ∈ gtbl := gt_t (k := 96) rfl rfl
theorem tw_97 : (Jvm.Cond.soleField "java/lang/Throwable" "stackTrace") ∈ gtbl := gt_t (k := 97) rfl rfl
theorem tw_98 : (Jvm.Cond.lays "java/lang/IllegalArgumentException" "java/lang/Throwable" "depth" "I") ∈ gtbl := gt_t (k := 98) rfl rfl
theorem tw_99 : (Jvm.Cond.soleField "java/lang/Throwable" "depth") ∈ gtbl := gt_t (k := 99) rfl rfl
theorem tw_100 : (Jvm.Cond.soleField "java/lang/Throwable" "suppressedExceptions") ∈ gtbl := gt_t (k := 100) rfl rfl
theorem tw_101 : (Jvm.Cond.superclass "java/lang/IllegalArgumentException" "java/lang/RuntimeException") ∈ gtbl := gt_t (k := 101) rfl rfl
theorem tw_102 : (Jvm.Cond.arrayClass Jvm.ClassFile.FieldType.byte) ∈ gtbl := gt_t (k := 102) rfl rfl
theorem tw_103 : (Jvm.Cond.constantLong "RealDesk" (17 : Nat) (9007199254740992 : Int64)) ∈ gtbl := gt_t (k := 103) rfl rfl
theorem tw_104 : (Jvm.Cond.constantLong "RealDesk" (19 : Nat) (-9007199254740992 : Int64)) ∈ gtbl := gt_t (k := 104) rfl rfl
theorem tw_107 : (Jvm.Cond.methodLink "RealDesk" (30 : Nat) ({ cls := "java/lang/Math", name := "abs", desc := "(J)J" } : Jvm.MethodName)) ∈ gtbl := gt_t (k := 107) rfl rfl
theorem tw_108 : (Jvm.Cond.static ({ cls := "java/lang/Math", name := "abs", desc := "(J)J" } : Jvm.MethodName)) ∈ gtbl := gt_t (k := 108) rfl rfl
theorem tw_109 : (Jvm.Cond.code ({ cls := "java/lang/Math", name := "abs", desc := "(J)J" } : Jvm.MethodName) prog_10_method_61_code (2 : Nat) (Option.some Jvm.ClassFile.FieldType.long)) ∈ gtbl := gt_t (k := 109) rfl rfl
theorem tw_110 : (Jvm.Cond.methodLink "RealDesk" (36 : Nat) ({ cls := "RealDesk", name := "nearest", desc := "(JI)J" } : Jvm.MethodName)) ∈ gtbl := gt_t (k := 110) rfl rfl
theorem tw_111 : (Jvm.Cond.static ({ cls := "RealDesk", name := "nearest", desc := "(JI)J" } : Jvm.MethodName)) ∈ gtbl := gt_t (k := 111) rfl rfl
theorem tw_112 : (Jvm.Cond.code ({ cls := "RealDesk", name := "nearest", desc := "(JI)J" } : Jvm.MethodName) prog_1_method_26_code (8 : Nat) (Option.some Jvm.ClassFile.FieldType.long)) ∈ gtbl := gt_t (k := 112) rfl rfl
theorem tw_113 : (Jvm.Cond.methodLink "RealDesk" (146 : Nat) ({ cls := "java/lang/Long", name := "numberOfLeadingZeros", desc := "(J)I" } : Jvm.MethodName)) ∈ gtbl := gt_t (k := 113) rfl rfl
theorem tw_114 : (Jvm.Cond.static ({ cls := "java/lang/Long", name := "numberOfLeadingZeros", desc := "(J)I" } : Jvm.MethodName)) ∈ gtbl := gt_t (k := 114) rfl rfl
theorem tw_115 : (Jvm.Cond.code ({ cls := "java/lang/Long", name := "numberOfLeadingZeros", desc := "(J)I" } : Jvm.MethodName) prog_9_method_48_code (3 : Nat) (Option.some Jvm.ClassFile.FieldType.int)) ∈ gtbl := gt_t (k := 115) rfl rfl
theorem tw_116 : (Jvm.Cond.methodLink "java/lang/Long" (308 : Nat) ({ cls := "java/lang/Integer", name := "numberOfLeadingZeros", desc := "(I)I" } : Jvm.MethodName)) ∈ gtbl := gt_t (k := 116) rfl rfl
theorem tw_117 : (Jvm.Cond.static ({ cls := "java/lang/Integer", name := "numberOfLeadingZeros", desc := "(I)I" } : Jvm.MethodName)) ∈ gtbl := gt_t (k := 117) rfl rfl
theorem tw_118 : (Jvm.Cond.code ({ cls := "java/lang/Integer", name := "numberOfLeadingZeros", desc := "(I)I" } : Jvm.MethodName) prog_8_method_47_code (2 : Nat) (Option.some Jvm.ClassFile.FieldType.int)) ∈ gtbl := gt_t (k := 118) rfl rfl
theorem tw_119 : (Jvm.Cond.constant "java/lang/Integer" (264 : Nat) (65536 : Int32)) ∈ gtbl := gt_t (k := 119) rfl rfl
theorem tw_120 : (Jvm.Cond.methodLink "RealDesk" (151 : Nat) ({ cls := "java/lang/Math", name := "max", desc := "(II)I" } : Jvm.MethodName)) ∈ gtbl := gt_t (k := 120) rfl rfl
theorem tw_121 : (Jvm.Cond.static ({ cls := "java/lang/Math", name := "max", desc := "(II)I" } : Jvm.MethodName)) ∈ gtbl := gt_t (k := 121) rfl rfl
theorem tw_122 : (Jvm.Cond.code ({ cls := "java/lang/Math", name := "max", desc := "(II)I" } : Jvm.MethodName) prog_10_method_65_code (2 : Nat) (Option.some Jvm.ClassFile.FieldType.int)) ∈ gtbl := gt_t (k := 122) rfl rfl
theorem tw_123 : (Jvm.Cond.constantLong "RealDesk" (140 : Nat) (9218868437227405312 : Int64)) ∈ gtbl := gt_t (k := 123) rfl rfl
theorem tw_124 : (Jvm.Cond.methodLink "RealDesk" (156 : Nat) ({ cls := "RealDesk", name := "nearestWhole", desc := "(JI)J" } : Jvm.MethodName)) ∈ gtbl := gt_t (k := 124) rfl rfl
theorem tw_125 : (Jvm.Cond.static ({ cls := "RealDesk", name := "nearestWhole", desc := "(JI)J" } : Jvm.MethodName)) ∈ gtbl := gt_t (k := 125) rfl rfl
theorem tw_126 : (Jvm.Cond.code ({ cls := "RealDesk", name := "nearestWhole", desc := "(JI)J" } : Jvm.MethodName) prog_1_method_25_code (10 : Nat) (Option.some Jvm.ClassFile.FieldType.long)) ∈ gtbl := gt_t (k := 126) rfl rfl
theorem tw_127 : (Jvm.Cond.methodLink "RealDesk" (100 : Nat) ({ cls := "RealDesk", name := "lowPlaces", desc := "(JI)J" } : Jvm.MethodName)) ∈ gtbl := gt_t (k := 127) rfl rfl
theorem tw_128 : (Jvm.Cond.static ({ cls := "RealDesk", name := "lowPlaces", desc := "(JI)J" } : Jvm.MethodName)) ∈ gtbl := gt_t (k := 128) rfl rfl
theorem tw_129 : (Jvm.Cond.code ({ cls := "RealDesk", name := "lowPlaces", desc := "(JI)J" } : Jvm.MethodName) prog_1_method_23_code (3 : Nat) (Option.some Jvm.ClassFile.FieldType.long)) ∈ gtbl := gt_t (k := 129) rfl rfl
theorem tw_130 : (Jvm.Cond.methodLink "RealDesk" (40 : Nat) ({ cls := "RealDesk", name := "withSignOf", desc := "(JJ)J" } : Jvm.MethodName)) ∈ gtbl := gt_t (k := 130) rfl rfl
theorem tw_131 : (Jvm.Cond.static ({ cls := "RealDesk", name := "withSignOf", desc := "(JJ)J" } : Jvm.MethodName)) ∈ gtbl := gt_t (k := 131) rfl rfl
theorem tw_132 : (Jvm.Cond.code ({ cls := "RealDesk", name := "withSignOf", desc := "(JJ)J" } : Jvm.MethodName) prog_1_method_17_code (4 : Nat) (Option.some Jvm.ClassFile.FieldType.long)) ∈ gtbl := gt_t (k := 132) rfl rfl
theorem tw_133 : (Jvm.Cond.methodLink "RealDesk" (44 : Nat) ({ cls := "RealDesk", name := "keep", desc := "(IJ)I" } : Jvm.MethodName)) ∈ gtbl := gt_t (k := 133) rfl rfl
theorem tw_135 : (Jvm.Cond.instanceMethod ({ cls := "RealDesk", name := "keep", desc := "(IJ)I" } : Jvm.MethodName)) ∈ gtbl := gt_t (k := 135) rfl rfl
theorem tw_136 : (Jvm.Cond.code ({ cls := "RealDesk", name := "keep", desc := "(IJ)I" } : Jvm.MethodName) prog_1_method_13_code (4 : Nat) (Option.some Jvm.ClassFile.FieldType.int)) ∈ gtbl := gt_t (k := 136) rfl rfl
theorem tw_137 : (Jvm.Cond.methodLink "RealDesk" (67 : Nat) ({ cls := "RealDesk", name := "isOver", desc := "(J)Z" } : Jvm.MethodName)) ∈ gtbl := gt_t (k := 137) rfl rfl
theorem tw_138 : (Jvm.Cond.static ({ cls := "RealDesk", name := "isOver", desc := "(J)Z" } : Jvm.MethodName)) ∈ gtbl := gt_t (k := 138) rfl rfl
theorem tw_139 : (Jvm.Cond.code ({ cls := "RealDesk", name := "isOver", desc := "(J)Z" } : Jvm.MethodName) prog_1_method_16_code (2 : Nat) (Option.some Jvm.ClassFile.FieldType.boolean)) ∈ gtbl := gt_t (k := 139) rfl rfl
theorem tw_140 : (Jvm.Cond.constantLong "RealDesk" (142 : Nat) (-9218868437227405312 : Int64)) ∈ gtbl := gt_t (k := 140) rfl rfl
theorem tw_141 : (Jvm.Cond.methodLink "RealDeskLaw" (63 : Nat) ({ cls := "RealDeskLaw", name := "combine", desc := "(LRealDesk;IIII[J)I" } : Jvm.MethodName)) ∈ gtbl := gt_t (k := 141) rfl rfl
theorem tw_142 : (Jvm.Cond.static ({ cls := "RealDeskLaw", name := "combine", desc := "(LRealDesk;IIII[J)I" } : Jvm.MethodName)) ∈ gtbl := gt_t (k := 142) rfl rfl
theorem tw_143 : (Jvm.Cond.codeWith ({ cls := "RealDeskLaw", name := "combine", desc := "(LRealDesk;IIII[J)I" } : Jvm.MethodName) method_4_code (7 : Nat) (Option.some Jvm.ClassFile.FieldType.int) [((0 : Nat), (14 : Nat), (17 : Nat), (13 : Nat))]) ∈ gtbl := gt_t (k := 143) rfl rfl
theorem tw_144 : (Jvm.Cond.methodLink "RealDeskLaw" (15 : Nat) ({ cls := "RealDesk", name := "combine", desc := "(IIII)I" } : Jvm.MethodName)) ∈ gtbl := gt_t (k := 144) rfl rfl
theorem tw_145 : (Jvm.Cond.instanceMethod ({ cls := "RealDesk", name := "combine", desc := "(IIII)I" } : Jvm.MethodName)) ∈ gtbl := gt_t (k := 145) rfl rfl
theorem tw_146 : (Jvm.Cond.selects "RealDesk" ({ cls := "RealDesk", name := "combine", desc := "(IIII)I" } : Jvm.MethodName) ({ cls := "RealDesk", name := "combine", desc := "(IIII)I" } : Jvm.MethodName)) ∈ gtbl := gt_t (k := 146) rfl rfl
theorem tw_147 : (Jvm.Cond.code ({ cls := "RealDesk", name := "combine", desc := "(IIII)I" } : Jvm.MethodName) prog_1_method_3_code (5 : Nat) (Option.some Jvm.ClassFile.FieldType.int)) ∈ gtbl := gt_t (k := 147) rfl rfl
theorem tw_148 : (Jvm.Cond.methodLink "RealDesk" (48 : Nat) ({ cls := "RealDesk", name := "requireKind", desc := "(I)V" } : Jvm.MethodName)) ∈ gtbl := gt_t (k := 148) rfl rfl
theorem tw_149 : (Jvm.Cond.static ({ cls := "RealDesk", name := "requireKind", desc := "(I)V" } : Jvm.MethodName)) ∈ gtbl := gt_t (k := 149) rfl rfl
theorem tw_150 : (Jvm.Cond.code ({ cls := "RealDesk", name := "requireKind", desc := "(I)V" } : Jvm.MethodName) prog_1_method_12_code (1 : Nat) (Option.none : Option Jvm.ClassFile.FieldType)) ∈ gtbl := gt_t (k := 150) rfl rfl
theorem tw_152 : (Jvm.Cond.methodLink "RealDesk" (51 : Nat) ({ cls := "RealDesk", name := "combineRanks", desc := "(IIJJ)I" } : Jvm.MethodName)) ∈ gtbl := gt_t (k := 152) rfl rfl
theorem tw_154 : (Jvm.Cond.instanceMethod ({ cls := "RealDesk", name := "combineRanks", desc := "(IIJJ)I" } : Jvm.MethodName)) ∈ gtbl := gt_t (k := 154) rfl rfl
theorem tw_155 : (Jvm.Cond.code ({ cls := "RealDesk", name := "combineRanks", desc := "(IIJJ)I" } : Jvm.MethodName) prog_1_method_14_code (7 : Nat) (Option.some Jvm.ClassFile.FieldType.int)) ∈ gtbl := gt_t (k := 155) rfl rfl
theorem tw_156 : (Jvm.Cond.methodLink "RealDesk" (109 : Nat) ({ cls := "RealDesk", name := "sum", desc := "(JJ)J" } : Jvm.MethodName)) ∈ gtbl := gt_t (k := 156) rfl rfl
theorem tw_157 : (Jvm.Cond.static ({ cls := "RealDesk", name := "sum", desc := "(JJ)J" } : Jvm.MethodName)) ∈ gtbl := gt_t (k := 157) rfl rfl
theorem tw_158 : (Jvm.Cond.code ({ cls := "RealDesk", name := "sum", desc := "(JJ)J" } : Jvm.MethodName) prog_1_method_29_code (17 : Nat) (Option.some Jvm.ClassFile.FieldType.long)) ∈ gtbl := gt_t (k := 158) rfl rfl
theorem tw_159 : (Jvm.Cond.methodLink "RealDesk" (159 : Nat) ({ cls := "RealDesk", name := "greatInSize", desc := "(JJ)J" } : Jvm.MethodName)) ∈ gtbl := gt_t (k := 159) rfl rfl
theorem tw_160 : (Jvm.Cond.static ({ cls := "RealDesk", name := "greatInSize", desc := "(JJ)J" } : Jvm.MethodName)) ∈ gtbl := gt_t (k := 160) rfl rfl
theorem tw_161 : (Jvm.Cond.code ({ cls := "RealDesk", name := "greatInSize", desc := "(JJ)J" } : Jvm.MethodName) prog_1_method_27_code (4 : Nat) (Option.some Jvm.ClassFile.FieldType.long)) ∈ gtbl := gt_t (k := 161) rfl rfl
theorem tw_162 : (Jvm.Cond.methodLink "RealDesk" (162 : Nat) ({ cls := "RealDesk", name := "smallInSize", desc := "(JJ)J" } : Jvm.MethodName)) ∈ gtbl := gt_t (k := 162) rfl rfl
theorem tw_163 : (Jvm.Cond.static ({ cls := "RealDesk", name := "smallInSize", desc := "(JJ)J" } : Jvm.MethodName)) ∈ gtbl := gt_t (k := 163) rfl rfl
theorem tw_164 : (Jvm.Cond.code ({ cls := "RealDesk", name := "smallInSize", desc := "(JJ)J" } : Jvm.MethodName) prog_1_method_28_code (4 : Nat) (Option.some Jvm.ClassFile.FieldType.long)) ∈ gtbl := gt_t (k := 164) rfl rfl
theorem tw_165 : (Jvm.Cond.methodLink "RealDesk" (79 : Nat) ({ cls := "RealDesk", name := "eOf", desc := "(J)I" } : Jvm.MethodName)) ∈ gtbl := gt_t (k := 165) rfl rfl
theorem tw_166 : (Jvm.Cond.static ({ cls := "RealDesk", name := "eOf", desc := "(J)I" } : Jvm.MethodName)) ∈ gtbl := gt_t (k := 166) rfl rfl
theorem tw_167 : (Jvm.Cond.code ({ cls := "RealDesk", name := "eOf", desc := "(J)I" } : Jvm.MethodName) prog_1_method_19_code (4 : Nat) (Option.some Jvm.ClassFile.FieldType.int)) ∈ gtbl := gt_t (k := 167) rfl rfl
theorem tw_168 : (Jvm.Cond.methodLink "RealDesk" (96 : Nat) ({ cls := "java/lang/Math", name := "min", desc := "(II)I" } : Jvm.MethodName)) ∈ gtbl := gt_t (k := 168) rfl rfl
theorem tw_169 : (Jvm.Cond.static ({ cls := "java/lang/Math", name := "min", desc := "(II)I" } : Jvm.MethodName)) ∈ gtbl := gt_t (k := 169) rfl rfl
theorem tw_170 : (Jvm.Cond.code ({ cls := "java/lang/Math", name := "min", desc := "(II)I" } : Jvm.MethodName) prog_10_method_69_code (2 : Nat) (Option.some Jvm.ClassFile.FieldType.int)) ∈ gtbl := gt_t (k := 170) rfl rfl
theorem tw_171 : (Jvm.Cond.methodLink "RealDesk" (76 : Nat) ({ cls := "RealDesk", name := "mOf", desc := "(J)J" } : Jvm.MethodName)) ∈ gtbl := gt_t (k := 171) rfl rfl
theorem tw_172 : (Jvm.Cond.static ({ cls := "RealDesk", name := "mOf", desc := "(J)J" } : Jvm.MethodName)) ∈ gtbl := gt_t (k := 172) rfl rfl
theorem tw_173 : (Jvm.Cond.code ({ cls := "RealDesk", name := "mOf", desc := "(J)J" } : Jvm.MethodName) prog_1_method_18_code (4 : Nat) (Option.some Jvm.ClassFile.FieldType.long)) ∈ gtbl := gt_t (k := 173) rfl rfl
theorem tw_174 : (Jvm.Cond.constantLong "RealDesk" (144 : Nat) (4503599627370496 : Int64)) ∈ gtbl := gt_t (k := 174) rfl rfl
theorem tw_175 : (Jvm.Cond.methodLink "RealDesk" (165 : Nat) ({ cls := "RealDesk", name := "lower", desc := "(JI)J" } : Jvm.MethodName)) ∈ gtbl := gt_t (k := 175) rfl rfl
theorem tw_176 : (Jvm.Cond.static ({ cls := "RealDesk", name := "lower", desc := "(JI)J" } : Jvm.MethodName)) ∈ gtbl := gt_t (k := 176) rfl rfl
theorem tw_177 : (Jvm.Cond.code ({ cls := "RealDesk", name := "lower", desc := "(JI)J" } : Jvm.MethodName) prog_1_method_24_code (5 : Nat) (Option.some Jvm.ClassFile.FieldType.long)) ∈ gtbl := gt_t (k := 177) rfl rfl
theorem tw_178 : (Jvm.Cond.methodLink "RealDesk" (112 : Nat) ({ cls := "RealDesk", name := "product", desc := "(JJ)J" } : Jvm.MethodName)) ∈ gtbl := gt_t (k := 178) rfl rfl
theorem tw_179 : (Jvm.Cond.static ({ cls := "RealDesk", name := "product", desc := "(JJ)J" } : Jvm.MethodName)) ∈ gtbl := gt_t (k := 179) rfl rfl
theorem tw_180 : (Jvm.Cond.code ({ cls := "RealDesk", name := "product", desc := "(JJ)J" } : Jvm.MethodName) prog_1_method_31_code (5 : Nat) (Option.some Jvm.ClassFile.FieldType.long)) ∈ gtbl := gt_t (k := 180) rfl rfl
theorem tw_181 : (Jvm.Cond.methodLink "RealDesk" (168 : Nat) ({ cls := "RealDesk", name := "liftedE", desc := "(J)I" } : Jvm.MethodName)) ∈ gtbl := gt_t (k := 181) rfl rfl
theorem tw_182 : (Jvm.Cond.static ({ cls := "RealDesk", name := "liftedE", desc := "(J)I" } : Jvm.MethodName)) ∈ gtbl := gt_t (k := 182) rfl rfl
theorem tw_183 : (Jvm.Cond.code ({ cls := "RealDesk", name := "liftedE", desc := "(J)I" } : Jvm.MethodName) prog_1_method_22_code (2 : Nat) (Option.some Jvm.ClassFile.FieldType.int)) ∈ gtbl := gt_t (k := 183) rfl rfl
theorem tw_184 : (Jvm.Cond.methodLink "RealDesk" (153 : Nat) ({ cls := "RealDesk", name := "lift", desc := "(J)I" } : Jvm.MethodName)) ∈ gtbl := gt_t (k := 184) rfl rfl
theorem tw_185 : (Jvm.Cond.static ({ cls := "RealDesk", name := "lift", desc := "(J)I" } : Jvm.MethodName)) ∈ gtbl := gt_t (k := 185) rfl rfl
theorem tw_186 : (Jvm.Cond.code ({ cls := "RealDesk", name := "lift", desc := "(J)I" } : Jvm.MethodName) prog_1_method_20_code (2 : Nat) (Option.some Jvm.ClassFile.FieldType.int)) ∈ gtbl := gt_t (k := 186) rfl rfl
theorem tw_187 : (Jvm.Cond.methodLink "RealDesk" (171 : Nat) ({ cls := "RealDesk", name := "liftedM", desc := "(J)J" } : Jvm.MethodName)) ∈ gtbl := gt_t (k := 187) rfl rfl
theorem tw_188 : (Jvm.Cond.static ({ cls := "RealDesk", name := "liftedM", desc := "(J)J" } : Jvm.MethodName)) ∈ gtbl := gt_t (k := 188) rfl rfl
theorem tw_189 : (Jvm.Cond.code ({ cls := "RealDesk", name := "liftedM", desc := "(J)J" } : Jvm.MethodName) prog_1_method_21_code (2 : Nat) (Option.some Jvm.ClassFile.FieldType.long)) ∈ gtbl := gt_t (k := 189) rfl rfl
theorem tw_190 : (Jvm.Cond.methodLink "RealDesk" (174 : Nat) ({ cls := "RealDesk", name := "topOfProduct", desc := "(JJ)J" } : Jvm.MethodName)) ∈ gtbl := gt_t (k := 190) rfl rfl
theorem tw_191 : (Jvm.Cond.static ({ cls := "RealDesk", name := "topOfProduct", desc := "(JJ)J" } : Jvm.MethodName)) ∈ gtbl := gt_t (k := 191) rfl rfl
theorem tw_192 : (Jvm.Cond.code ({ cls := "RealDesk", name := "topOfProduct", desc := "(JJ)J" } : Jvm.MethodName) prog_1_method_32_code (20 : Nat) (Option.some Jvm.ClassFile.FieldType.long)) ∈ gtbl := gt_t (k := 192) rfl rfl
theorem tw_193 : (Jvm.Cond.methodLink "RealDesk" (73 : Nat) ({ cls := "RealDesk", name := "quotient", desc := "(JJ)J" } : Jvm.MethodName)) ∈ gtbl := gt_t (k := 193) rfl rfl
theorem tw_194 : (Jvm.Cond.static ({ cls := "RealDesk", name := "quotient", desc := "(JJ)J" } : Jvm.MethodName)) ∈ gtbl := gt_t (k := 194) rfl rfl
theorem tw_195 : (Jvm.Cond.code ({ cls := "RealDesk", name := "quotient", desc := "(JJ)J" } : Jvm.MethodName) prog_1_method_35_code (13 : Nat) (Option.some Jvm.ClassFile.FieldType.long)) ∈ gtbl := gt_t (k := 195) rfl rfl
theorem tw_196 : (Jvm.Cond.methodLink "RealDesk" (115 : Nat) ({ cls := "RealDesk", name := "rest", desc := "(JJ)J" } : Jvm.MethodName)) ∈ gtbl := gt_t (k := 196) rfl rfl
theorem tw_197 : (Jvm.Cond.static ({ cls := "RealDesk", name := "rest", desc := "(JJ)J" } : Jvm.MethodName)) ∈ gtbl := gt_t (k := 197) rfl rfl
theorem tw_198 : (Jvm.Cond.code ({ cls := "RealDesk", name := "rest", desc := "(JJ)J" } : Jvm.MethodName) prog_1_method_36_code (9 : Nat) (Option.some Jvm.ClassFile.FieldType.long)) ∈ gtbl := gt_t (k := 198) rfl rfl
theorem tw_199 : (Jvm.Cond.methodLink "RealDesk" (118 : Nat) ({ cls := "java/lang/Math", name := "min", desc := "(JJ)J" } : Jvm.MethodName)) ∈ gtbl := gt_t (k := 199) rfl rfl
theorem tw_200 : (Jvm.Cond.static ({ cls := "java/lang/Math", name := "min", desc := "(JJ)J" } : Jvm.MethodName)) ∈ gtbl := gt_t (k := 200) rfl rfl
theorem tw_201 : (Jvm.Cond.code ({ cls := "java/lang/Math", name := "min", desc := "(JJ)J" } : Jvm.MethodName) prog_10_method_70_code (4 : Nat) (Option.some Jvm.ClassFile.FieldType.long)) ∈ gtbl := gt_t (k := 201) rfl rfl
theorem tw_202 : (Jvm.Cond.methodLink "RealDesk" (120 : Nat) ({ cls := "java/lang/Math", name := "max", desc := "(JJ)J" } : Jvm.MethodName)) ∈ gtbl := gt_t (k := 202) rfl rfl
theorem tw_203 : (Jvm.Cond.static ({ cls := "java/lang/Math", name := "max", desc := "(JJ)J" } : Jvm.MethodName)) ∈ gtbl := gt_t (k := 203) rfl rfl
theorem tw_204 : (Jvm.Cond.code ({ cls := "java/lang/Math", name := "max", desc := "(JJ)J" } : Jvm.MethodName) prog_10_method_66_code (4 : Nat) (Option.some Jvm.ClassFile.FieldType.long)) ∈ gtbl := gt_t (k := 204) rfl rfl
theorem tw_205 : (Jvm.Cond.methodLink "RealDesk" (123 : Nat) ({ cls := "RealDesk", name := "sumError", desc := "(JJ)J" } : Jvm.MethodName)) ∈ gtbl := gt_t (k := 205) rfl rfl
theorem tw_206 : (Jvm.Cond.static ({ cls := "RealDesk", name := "sumError", desc := "(JJ)J" } : Jvm.MethodName)) ∈ gtbl := gt_t (k := 206) rfl rfl
theorem tw_207 : (Jvm.Cond.code ({ cls := "RealDesk", name := "sumError", desc := "(JJ)J" } : Jvm.MethodName) prog_1_method_30_code (10 : Nat) (Option.some Jvm.ClassFile.FieldType.long)) ∈ gtbl := gt_t (k := 207) rfl rfl
theorem tw_208 : (Jvm.Cond.methodLink "RealDesk" (126 : Nat) ({ cls := "RealDesk", name := "isSmallProduct", desc := "(JJ)Z" } : Jvm.MethodName)) ∈ gtbl := gt_t (k := 208) rfl rfl
theorem tw_209 : (Jvm.Cond.static ({ cls := "RealDesk", name := "isSmallProduct", desc := "(JJ)Z" } : Jvm.MethodName)) ∈ gtbl := gt_t (k := 209) rfl rfl
theorem tw_210 : (Jvm.Cond.code ({ cls := "RealDesk", name := "isSmallProduct", desc := "(JJ)Z" } : Jvm.MethodName) prog_1_method_33_code (7 : Nat) (Option.some Jvm.ClassFile.FieldType.boolean)) ∈ gtbl := gt_t (k := 210) rfl rfl
theorem tw_211 : (Jvm.Cond.methodLink "RealDesk" (130 : Nat) ({ cls := "RealDesk", name := "productError", desc := "(JJ)J" } : Jvm.MethodName)) ∈ gtbl := gt_t (k := 211) rfl rfl
theorem tw_212 : (Jvm.Cond.static ({ cls := "RealDesk", name := "productError", desc := "(JJ)J" } : Jvm.MethodName)) ∈ gtbl := gt_t (k := 212) rfl rfl
theorem tw_213 : (Jvm.Cond.code ({ cls := "RealDesk", name := "productError", desc := "(JJ)J" } : Jvm.MethodName) prog_1_method_34_code (11 : Nat) (Option.some Jvm.ClassFile.FieldType.long)) ∈ gtbl := gt_t (k := 213) rfl rfl
theorem tw_214 : (Jvm.Cond.methodLink "RealDeskLaw" (67 : Nat) ({ cls := "RealDeskLaw", name := "change", desc := "(LRealDesk;III[J)I" } : Jvm.MethodName)) ∈ gtbl := gt_t (k := 214) rfl rfl
theorem tw_215 : (Jvm.Cond.static ({ cls := "RealDeskLaw", name := "change", desc := "(LRealDesk;III[J)I" } : Jvm.MethodName)) ∈ gtbl := gt_t (k := 215) rfl rfl
theorem tw_216 : (Jvm.Cond.codeWith ({ cls := "RealDeskLaw", name := "change", desc := "(LRealDesk;III[J)I" } : Jvm.MethodName) method_5_code (6 : Nat) (Option.some Jvm.ClassFile.FieldType.int) [((0 : Nat), (12 : Nat), (15 : Nat), (13 : Nat))]) ∈ gtbl := gt_t (k := 216) rfl rfl
theorem tw_217 : (Jvm.Cond.methodLink "RealDeskLaw" (19 : Nat) ({ cls := "RealDesk", name := "change", desc := "(III)I" } : Jvm.MethodName)) ∈ gtbl := gt_t (k := 217) rfl rfl
theorem tw_218 : (Jvm.Cond.instanceMethod ({ cls := "RealDesk", name := "change", desc := "(III)I" } : Jvm.MethodName)) ∈ gtbl := gt_t (k := 218) rfl rfl
theorem tw_219 : (Jvm.Cond.selects "RealDesk" ({ cls := "RealDesk", name := "change", desc := "(III)I" } : Jvm.MethodName) ({ cls := "RealDesk", name := "change", desc := "(III)I" } : Jvm.MethodName)) ∈ gtbl := gt_t (k := 219) rfl rfl
theorem tw_220 : (Jvm.Cond.code ({ cls := "RealDesk", name := "change", desc := "(III)I" } : Jvm.MethodName) prog_1_method_4_code (4 : Nat) (Option.some Jvm.ClassFile.FieldType.int)) ∈ gtbl := gt_t (k := 220) rfl rfl
theorem tw_221 : (Jvm.Cond.methodLink "RealDesk" (55 : Nat) ({ cls := "RealDesk", name := "changeRank", desc := "(IIJ)I" } : Jvm.MethodName)) ∈ gtbl := gt_t (k := 221) rfl rfl
theorem tw_223 : (Jvm.Cond.instanceMethod ({ cls := "RealDesk", name := "changeRank", desc := "(IIJ)I" } : Jvm.MethodName)) ∈ gtbl := gt_t (k := 223) rfl rfl
theorem tw_224 : (Jvm.Cond.code ({ cls := "RealDesk", name := "changeRank", desc := "(IIJ)I" } : Jvm.MethodName) prog_1_method_15_code (5 : Nat) (Option.some Jvm.ClassFile.FieldType.int)) ∈ gtbl := gt_t (k := 224) rfl rfl
theorem tw_225 : (Jvm.Cond.methodLink "RealDesk" (133 : Nat) ({ cls := "RealDesk", name := "root", desc := "(J)J" } : Jvm.MethodName)) ∈ gtbl := gt_t (k := 225) rfl rfl
theorem tw_226 : (Jvm.Cond.static ({ cls := "RealDesk", name := "root", desc := "(J)J" } : Jvm.MethodName)) ∈ gtbl := gt_t (k := 226) rfl rfl
theorem tw_227 : (Jvm.Cond.code ({ cls := "RealDesk", name := "root", desc := "(J)J" } : Jvm.MethodName) prog_1_method_37_code (15 : Nat) (Option.some Jvm.ClassFile.FieldType.long)) ∈ gtbl := gt_t (k := 227) rfl rfl
theorem tw_228 : (Jvm.Cond.methodLink "RealDesk" (136 : Nat) ({ cls := "RealDesk", name := "wholeNear", desc := "(IJ)J" } : Jvm.MethodName)) ∈ gtbl := gt_t (k := 228) rfl rfl
theorem tw_229 : (Jvm.Cond.static ({ cls := "RealDesk", name := "wholeNear", desc := "(IJ)J" } : Jvm.MethodName)) ∈ gtbl := gt_t (k := 229) rfl rfl
theorem tw_230 : (Jvm.Cond.code ({ cls := "RealDesk", name := "wholeNear", desc := "(IJ)J" } : Jvm.MethodName) prog_1_method_38_code (13 : Nat) (Option.some Jvm.ClassFile.FieldType.long)) ∈ gtbl := gt_t (k := 230) rfl rfl
theorem tw_231 : (Jvm.Cond.methodLink "RealDeskLaw" (71 : Nat) ({ cls := "RealDeskLaw", name := "power", desc := "(LRealDesk;III[J)I" } : Jvm.MethodName)) ∈ gtbl := gt_t (k := 231) rfl rfl
theorem tw_232 : (Jvm.Cond.static ({ cls := "RealDeskLaw", name := "power", desc := "(LRealDesk;III[J)I" } : Jvm.MethodName)) ∈ gtbl := gt_t (k := 232) rfl rfl
theorem tw_233 : (Jvm.Cond.codeWith ({ cls := "RealDeskLaw", name := "power", desc := "(LRealDesk;III[J)I" } : Jvm.MethodName) method_6_code (6 : Nat) (Option.some Jvm.ClassFile.FieldType.int) [((0 : Nat), (12 : Nat), (15 : Nat), (13 : Nat))]) ∈ gtbl := gt_t (k := 233) rfl rfl
theorem tw_234 : (Jvm.Cond.methodLink "RealDeskLaw" (23 : Nat) ({ cls := "RealDesk", name := "power", desc := "(III)I" } : Jvm.MethodName)) ∈ gtbl := gt_t (k := 234) rfl rfl
theorem tw_235 : (Jvm.Cond.instanceMethod ({ cls := "RealDesk", name := "power", desc := "(III)I" } : Jvm.MethodName)) ∈ gtbl := gt_t (k := 235) rfl rfl
theorem tw_236 : (Jvm.Cond.selects "RealDesk" ({ cls := "RealDesk", name := "power", desc := "(III)I" } : Jvm.MethodName) ({ cls := "RealDesk", name := "power", desc := "(III)I" } : Jvm.MethodName)) ∈ gtbl := gt_t (k := 236) rfl rfl
theorem tw_237 : (Jvm.Cond.code ({ cls := "RealDesk", name := "power", desc := "(III)I" } : Jvm.MethodName) prog_1_method_5_code (6 : Nat) (Option.some Jvm.ClassFile.FieldType.int)) ∈ gtbl := gt_t (k := 237) rfl rfl
theorem tw_239 : (Jvm.Cond.methodLink "RealDesk" (61 : Nat) ({ cls := "java/lang/Math", name := "abs", desc := "(I)I" } : Jvm.MethodName)) ∈ gtbl := gt_t (k := 239) rfl rfl
theorem tw_240 : (Jvm.Cond.static ({ cls := "java/lang/Math", name := "abs", desc := "(I)I" } : Jvm.MethodName)) ∈ gtbl := gt_t (k := 240) rfl rfl
theorem tw_241 : (Jvm.Cond.code ({ cls := "java/lang/Math", name := "abs", desc := "(I)I" } : Jvm.MethodName) prog_10_method_59_code (1 : Nat) (Option.some Jvm.ClassFile.FieldType.int)) ∈ gtbl := gt_t (k := 241) rfl rfl
theorem tw_242 : (Jvm.Cond.methodLink "RealDesk" (64 : Nat) ({ cls := "RealDesk", name := "raise", desc := "(JI)J" } : Jvm.MethodName)) ∈ gtbl := gt_t (k := 242) rfl rfl
theorem tw_243 : (Jvm.Cond.static ({ cls := "RealDesk", name := "raise", desc := "(JI)J" } : Jvm.MethodName)) ∈ gtbl := gt_t (k := 243) rfl rfl
theorem tw_244 : (Jvm.Cond.code ({ cls := "RealDesk", name := "raise", desc := "(JI)J" } : Jvm.MethodName) prog_1_method_39_code (7 : Nat) (Option.some Jvm.ClassFile.FieldType.long)) ∈ gtbl := gt_t (k := 244) rfl rfl
theorem tw_245 : (Jvm.Cond.constantLong "RealDesk" (71 : Nat) (4607182418800017408 : Int64)) ∈ gtbl := gt_t (k := 245) rfl rfl
theorem tw_246 : (Jvm.Cond.methodLink "RealDesk" (177 : Nat) ({ cls := "java/lang/Integer", name := "numberOfLeadingZeros", desc := "(I)I" } : Jvm.MethodName)) ∈ gtbl := gt_t (k := 246) rfl rfl
theorem tw_247 : (Jvm.Cond.methodLink "RealDeskLaw" (74 : Nat) ({ cls := "RealDeskLaw", name := "order", desc := "(LRealDesk;II[J)I" } : Jvm.MethodName)) ∈ gtbl := gt_t (k := 247) rfl rfl
theorem tw_248 : (Jvm.Cond.static ({ cls := "RealDeskLaw", name := "order", desc := "(LRealDesk;II[J)I" } : Jvm.MethodName)) ∈ gtbl := gt_t (k := 248) rfl rfl
theorem tw_249 : (Jvm.Cond.codeWith ({ cls := "RealDeskLaw", name := "order", desc := "(LRealDesk;II[J)I" } : Jvm.MethodName) method_7_code (5 : Nat) (Option.some Jvm.ClassFile.FieldType.int) [((0 : Nat), (10 : Nat), (13 : Nat), (13 : Nat))]) ∈ gtbl := gt_t (k := 249) rfl rfl
theorem tw_250 : (Jvm.Cond.methodLink "RealDeskLaw" (26 : Nat) ({ cls := "RealDesk", name := "order", desc := "(II)I" } : Jvm.MethodName)) ∈ gtbl := gt_t (k := 250) rfl rfl
theorem tw_251 : (Jvm.Cond.instanceMethod ({ cls := "RealDesk", name := "order", desc := "(II)I" } : Jvm.MethodName)) ∈ gtbl := gt_t (k := 251) rfl rfl
theorem tw_252 : (Jvm.Cond.selects "RealDesk" ({ cls := "RealDesk", name := "order", desc := "(II)I" } : Jvm.MethodName) ({ cls := "RealDesk", name := "order", desc := "(II)I" } : Jvm.MethodName)) ∈ gtbl := gt_t (k := 252) rfl rfl
theorem tw_253 : (Jvm.Cond.code ({ cls := "RealDesk", name := "order", desc := "(II)I" } : Jvm.MethodName) prog_1_method_6_code (3 : Nat) (Option.some Jvm.ClassFile.FieldType.int)) ∈ gtbl := gt_t (k := 253) rfl rfl
theorem tw_254 : (Jvm.Cond.methodLink "RealDeskLaw" (78 : Nat) ({ cls := "RealDeskLaw", name := "digits", desc := "(LRealDesk;I[J)I" } : Jvm.MethodName)) ∈ gtbl := gt_t (k := 254) rfl rfl
theorem tw_255 : (Jvm.Cond.static ({ cls := "RealDeskLaw", name := "digits", desc := "(LRealDesk;I[J)I" } : Jvm.MethodName)) ∈ gtbl := gt_t (k := 255) rfl rfl
theorem tw_256 : (Jvm.Cond.codeWith ({ cls := "RealDeskLaw", name := "digits", desc := "(LRealDesk;I[J)I" } : Jvm.MethodName) method_8_code (4 : Nat) (Option.some Jvm.ClassFile.FieldType.int) [((0 : Nat), (8 : Nat), (11 : Nat), (13 : Nat))]) ∈ gtbl := gt_t (k := 256) rfl rfl
theorem tw_257 : (Jvm.Cond.methodLink "RealDeskLaw" (30 : Nat) ({ cls := "RealDesk", name := "digits", desc := "(I)J" } : Jvm.MethodName)) ∈ gtbl := gt_t (k := 257) rfl rfl
theorem tw_258 : (Jvm.Cond.instanceMethod ({ cls := "RealDesk", name := "digits", desc := "(I)J" } : Jvm.MethodName)) ∈ gtbl := gt_t (k := 258) rfl rfl
theorem tw_259 : (Jvm.Cond.selects "RealDesk" ({ cls := "RealDesk", name := "digits", desc := "(I)J" } : Jvm.MethodName) ({ cls := "RealDesk", name := "digits", desc := "(I)J" } : Jvm.MethodName)) ∈ gtbl := gt_t (k := 259) rfl rfl
theorem tw_260 : (Jvm.Cond.code ({ cls := "RealDesk", name := "digits", desc := "(I)J" } : Jvm.MethodName) prog_1_method_7_code (2 : Nat) (Option.some Jvm.ClassFile.FieldType.long)) ∈ gtbl := gt_t (k := 260) rfl rfl
theorem tw_261 : (Jvm.Cond.methodLink "RealDeskLaw" (82 : Nat) ({ cls := "RealDeskLaw", name := "exponent", desc := "(LRealDesk;I[J)I" } : Jvm.MethodName)) ∈ gtbl := gt_t (k := 261) rfl rfl
theorem tw_262 : (Jvm.Cond.static ({ cls := "RealDeskLaw", name := "exponent", desc := "(LRealDesk;I[J)I" } : Jvm.MethodName)) ∈ gtbl := gt_t (k := 262) rfl rfl
theorem tw_263 : (Jvm.Cond.codeWith ({ cls := "RealDeskLaw", name := "exponent", desc := "(LRealDesk;I[J)I" } : Jvm.MethodName) method_9_code (4 : Nat) (Option.some Jvm.ClassFile.FieldType.int) [((0 : Nat), (9 : Nat), (12 : Nat), (13 : Nat))]) ∈ gtbl := gt_t (k := 263) rfl rfl
theorem tw_264 : (Jvm.Cond.methodLink "RealDeskLaw" (34 : Nat) ({ cls := "RealDesk", name := "exponent", desc := "(I)I" } : Jvm.MethodName)) ∈ gtbl := gt_t (k := 264) rfl rfl
theorem tw_265 : (Jvm.Cond.instanceMethod ({ cls := "RealDesk", name := "exponent", desc := "(I)I" } : Jvm.MethodName)) ∈ gtbl := gt_t (k := 265) rfl rfl
theorem tw_266 : (Jvm.Cond.selects "RealDesk" ({ cls := "RealDesk", name := "exponent", desc := "(I)I" } : Jvm.MethodName) ({ cls := "RealDesk", name := "exponent", desc := "(I)I" } : Jvm.MethodName)) ∈ gtbl := gt_t (k := 266) rfl rfl
theorem tw_267 : (Jvm.Cond.code ({ cls := "RealDesk", name := "exponent", desc := "(I)I" } : Jvm.MethodName) prog_1_method_8_code (2 : Nat) (Option.some Jvm.ClassFile.FieldType.int)) ∈ gtbl := gt_t (k := 267) rfl rfl
theorem tw_268 : (Jvm.Cond.methodLink "RealDeskLaw" (85 : Nat) ({ cls := "RealDeskLaw", name := "value", desc := "(LRealDesk;I[D)I" } : Jvm.MethodName)) ∈ gtbl := gt_t (k := 268) rfl rfl
theorem tw_269 : (Jvm.Cond.static ({ cls := "RealDeskLaw", name := "value", desc := "(LRealDesk;I[D)I" } : Jvm.MethodName)) ∈ gtbl := gt_t (k := 269) rfl rfl
theorem tw_270 : (Jvm.Cond.codeWith ({ cls := "RealDeskLaw", name := "value", desc := "(LRealDesk;I[D)I" } : Jvm.MethodName) method_10_code (4 : Nat) (Option.some Jvm.ClassFile.FieldType.int) [((0 : Nat), (8 : Nat), (11 : Nat), (13 : Nat))]) ∈ gtbl := gt_t (k := 270) rfl rfl
theorem tw_271 : (Jvm.Cond.methodLink "RealDeskLaw" (38 : Nat) ({ cls := "RealDesk", name := "value", desc := "(I)D" } : Jvm.MethodName)) ∈ gtbl := gt_t (k := 271) rfl rfl
theorem tw_272 : (Jvm.Cond.instanceMethod ({ cls := "RealDesk", name := "value", desc := "(I)D" } : Jvm.MethodName)) ∈ gtbl := gt_t (k := 272) rfl rfl
theorem tw_273 : (Jvm.Cond.selects "RealDesk" ({ cls := "RealDesk", name := "value", desc := "(I)D" } : Jvm.MethodName) ({ cls := "RealDesk", name := "value", desc := "(I)D" } : Jvm.MethodName)) ∈ gtbl := gt_t (k := 273) rfl rfl
theorem tw_274 : (Jvm.Cond.code ({ cls := "RealDesk", name := "value", desc := "(I)D" } : Jvm.MethodName) prog_1_method_9_code (4 : Nat) (Option.some Jvm.ClassFile.FieldType.double)) ∈ gtbl := gt_t (k := 274) rfl rfl
theorem tw_275 : (Jvm.Cond.methodLink "RealDesk" (83 : Nat) ({ cls := "RealDesk", name := "powerOfTwo", desc := "(I)D" } : Jvm.MethodName)) ∈ gtbl := gt_t (k := 275) rfl rfl
theorem tw_276 : (Jvm.Cond.static ({ cls := "RealDesk", name := "powerOfTwo", desc := "(I)D" } : Jvm.MethodName)) ∈ gtbl := gt_t (k := 276) rfl rfl
theorem tw_277 : (Jvm.Cond.code ({ cls := "RealDesk", name := "powerOfTwo", desc := "(I)D" } : Jvm.MethodName) prog_1_method_40_code (6 : Nat) (Option.some Jvm.ClassFile.FieldType.double)) ∈ gtbl := gt_t (k := 277) rfl rfl
theorem tw_278 : (Jvm.Cond.constantDouble "RealDesk" (181 : Nat) (4602678819172646912 : UInt64)) ∈ gtbl := gt_t (k := 278) rfl rfl
theorem tw_279 : (Jvm.Cond.constantDouble "RealDesk" (183 : Nat) (4611686018427387904 : UInt64)) ∈ gtbl := gt_t (k := 279) rfl rfl
theorem tw_280 : (Jvm.Cond.methodLink "RealDeskLaw" (89 : Nat) ({ cls := "RealDeskLaw", name := "whole", desc := "(LRealDesk;I[J)I" } : Jvm.MethodName)) ∈ gtbl := gt_t (k := 280) rfl rfl
theorem tw_281 : (Jvm.Cond.static ({ cls := "RealDeskLaw", name := "whole", desc := "(LRealDesk;I[J)I" } : Jvm.MethodName)) ∈ gtbl := gt_t (k := 281) rfl rfl
theorem tw_282 : (Jvm.Cond.codeWith ({ cls := "RealDeskLaw", name := "whole", desc := "(LRealDesk;I[J)I" } : Jvm.MethodName) method_11_code (4 : Nat) (Option.some Jvm.ClassFile.FieldType.int) [((0 : Nat), (8 : Nat), (11 : Nat), (13 : Nat)), ((0 : Nat), (8 : Nat), (14 : Nat), (45 : Nat))]) ∈ gtbl := gt_t (k := 282) rfl rfl
theorem tw_283 : (Jvm.Cond.classLink "RealDeskLaw" (45 : Nat) "java/lang/IllegalStateException") ∈ gtbl := gt_t (k := 283) rfl rfl
theorem tw_284 : (Jvm.Cond.methodLink "RealDeskLaw" (42 : Nat) ({ cls := "RealDesk", name := "whole", desc := "(I)J" } : Jvm.MethodName)) ∈ gtbl := gt_t (k := 284) rfl rfl
theorem tw_285 : (Jvm.Cond.instanceMethod ({ cls := "RealDesk", name := "whole", desc := "(I)J" } : Jvm.MethodName)) ∈ gtbl := gt_t (k := 285) rfl rfl
theorem tw_286 : (Jvm.Cond.selects "RealDesk" ({ cls := "RealDesk", name := "whole", desc := "(I)J" } : Jvm.MethodName) ({ cls := "RealDesk", name := "whole", desc := "(I)J" } : Jvm.MethodName)) ∈ gtbl := gt_t (k := 286) rfl rfl
theorem tw_287 : (Jvm.Cond.code ({ cls := "RealDesk", name := "whole", desc := "(I)J" } : Jvm.MethodName) prog_1_method_10_code (8 : Nat) (Option.some Jvm.ClassFile.FieldType.long)) ∈ gtbl := gt_t (k := 287) rfl rfl
theorem tw_288 : (Jvm.Cond.constantLong "RealDesk" (87 : Nat) (4890909195324358656 : Int64)) ∈ gtbl := gt_t (k := 288) rfl rfl
theorem tw_289 : (Jvm.Cond.constantLong "RealDesk" (89 : Nat) (-4890909195324358656 : Int64)) ∈ gtbl := gt_t (k := 289) rfl rfl
theorem tw_290 : (Jvm.Cond.classLink "RealDesk" (91 : Nat) "java/lang/IllegalStateException") ∈ gtbl := gt_t (k := 290) rfl rfl
theorem tw_291 : (Jvm.Cond.instantiable "java/lang/IllegalStateException" (6 : Nat)) ∈ gtbl := gt_t (k := 291) rfl rfl
theorem tw_293 : (Jvm.Cond.selects "java/lang/IllegalStateException" ({ cls := "java/lang/Throwable", name := "fillInStackTrace", desc := "(I)Ljava/lang/Throwable;" } : Jvm.MethodName) ({ cls := "java/lang/Throwable", name := "fillInStackTrace", desc := "(I)Ljava/lang/Throwable;" } : Jvm.MethodName)) ∈ gtbl := gt_t (k := 293) rfl rfl
theorem tw_294 : (Jvm.Cond.lays "java/lang/IllegalStateException" "java/lang/Throwable" "cause" "Ljava/lang/Throwable;") ∈ gtbl := gt_t (k := 294) rfl rfl
theorem tw_295 : (Jvm.Cond.lays "java/lang/IllegalStateException" "java/lang/Throwable" "stackTrace" "[Ljava/lang/StackTraceElement;") ∈ gtbl := gt_t (k := 295) rfl rfl
theorem tw_296 : (Jvm.Cond.lays "java/lang/IllegalStateException" "java/lang/Throwable" "suppressedExceptions" "Ljava/util/List;") ∈ gtbl := gt_t (k := 296) rfl rfl
theorem tw_297 : (Jvm.Cond.lays "java/lang/IllegalStateException" "java/lang/Throwable" "detailMessage" "Ljava/lang/String;") ∈ gtbl := gt_t (k := 297) rfl rfl
theorem tw_298 : (Jvm.Cond.lays "java/lang/IllegalStateException" "java/lang/Throwable" "backtrace" "Ljava/lang/Object;") ∈ gtbl := gt_t (k := 298) rfl rfl
theorem tw_300 : (Jvm.Cond.methodLink "RealDesk" (95 : Nat) ({ cls := "java/lang/IllegalStateException", name := "<init>", desc := "(Ljava/lang/String;)V" } : Jvm.MethodName)) ∈ gtbl := gt_t (k := 300) rfl rfl
theorem tw_301 : (Jvm.Cond.instanceMethod ({ cls := "java/lang/IllegalStateException", name := "<init>", desc := "(Ljava/lang/String;)V" } : Jvm.MethodName)) ∈ gtbl := gt_t (k := 301) rfl rfl
theorem tw_302 : (Jvm.Cond.code ({ cls := "java/lang/IllegalStateException", name := "<init>", desc := "(Ljava/lang/String;)V" } : Jvm.MethodName) prog_7_method_2_code (2 : Nat) (Option.none : Option Jvm.ClassFile.FieldType)) ∈ gtbl := gt_t (k := 302) rfl rfl
theorem tw_303 : (Jvm.Cond.methodLink "java/lang/IllegalStateException" (7 : Nat) ({ cls := "java/lang/RuntimeException", name := "<init>", desc := "(Ljava/lang/String;)V" } : Jvm.MethodName)) ∈ gtbl := gt_t (k := 303) rfl rfl
theorem tw_304 : (Jvm.Cond.lays "java/lang/IllegalStateException" "java/lang/Throwable" "depth" "I") ∈ gtbl := gt_t (k := 304) rfl rfl
theorem tw_305 : (Jvm.Cond.superclass "java/lang/IllegalStateException" "java/lang/RuntimeException") ∈ gtbl := gt_t (k := 305) rfl rfl
theorem tw_307 : (Jvm.Cond.classLink "RealDeskLaw" (48 : Nat) "RealDeskModel") ∈ gtbl := gt_t (k := 307) rfl rfl
theorem tw_308 : (Jvm.Cond.instantiable "RealDeskModel" (9 : Nat)) ∈ gtbl := gt_t (k := 308) rfl rfl
theorem tw_309 : (Jvm.Cond.methodLink "RealDeskLaw" (50 : Nat) ({ cls := "RealDeskModel", name := "<init>", desc := "()V" } : Jvm.MethodName)) ∈ gtbl := gt_t (k := 309) rfl rfl
theorem tw_310 : (Jvm.Cond.instanceMethod ({ cls := "RealDeskModel", name := "<init>", desc := "()V" } : Jvm.MethodName)) ∈ gtbl := gt_t (k := 310) rfl rfl
theorem tw_311 : (Jvm.Cond.code ({ cls := "RealDeskModel", name := "<init>", desc := "()V" } : Jvm.MethodName) prog_3_method_1_code (2 : Nat) (Option.none : Option Jvm.ClassFile.FieldType)) ∈ gtbl := gt_t (k := 311) rfl rfl
theorem tw_312 : (Jvm.Cond.methodLink "RealDeskModel" (1 : Nat) ({ cls := "java/lang/Object", name := "<init>", desc := "()V" } : Jvm.MethodName)) ∈ gtbl := gt_t (k := 312) rfl rfl
theorem tw_313 : (Jvm.Cond.classLink "RealDeskModel" (21 : Nat) "RealDeskModel$Big") ∈ gtbl := gt_t (k := 313) rfl rfl
theorem tw_314 : (Jvm.Cond.instantiable "RealDeskModel$Big" (1 : Nat)) ∈ gtbl := gt_t (k := 314) rfl rfl
theorem tw_316 : (Jvm.Cond.instanceMethod ({ cls := "RealDeskModel$Big", name := "<init>", desc := "()V" } : Jvm.MethodName)) ∈ gtbl := gt_t (k := 316) rfl rfl
theorem tw_317 : (Jvm.Cond.code ({ cls := "RealDeskModel$Big", name := "<init>", desc := "()V" } : Jvm.MethodName) prog_4_method_1_code (1 : Nat) (Option.none : Option Jvm.ClassFile.FieldType)) ∈ gtbl := gt_t (k := 317) rfl rfl
theorem tw_318 : (Jvm.Cond.methodLink "RealDeskModel$Big" (1 : Nat) ({ cls := "java/lang/Object", name := "<init>", desc := "()V" } : Jvm.MethodName)) ∈ gtbl := gt_t (k := 318) rfl rfl
theorem tw_319 : (Jvm.Cond.fieldLink "RealDeskModel$Big" (7 : Nat) "RealDeskModel$Big" "parts" "[I") ∈ gtbl := gt_t (k := 319) rfl rfl
theorem tw_321 : (Jvm.Cond.laysFinal "RealDeskModel$Big" "RealDeskModel$Big" "parts" "[I") ∈ gtbl := gt_t (k := 321) rfl rfl
theorem tw_322 : (Jvm.Cond.soleField "RealDeskModel$Big" "parts") ∈ gtbl := gt_t (k := 322) rfl rfl
theorem tw_323 : (Jvm.Cond.superclass "RealDeskModel$Big" "java/lang/Object") ∈ gtbl := gt_t (k := 323) rfl rfl
theorem tw_324 : (Jvm.Cond.arrayClass Jvm.ClassFile.FieldType.boolean) ∈ gtbl := gt_t (k := 324) rfl rfl
theorem tw_325 : (Jvm.Cond.arrayClass Jvm.ClassFile.FieldType.int) ∈ gtbl := gt_t (k := 325) rfl rfl
theorem tw_326 : (Jvm.Cond.fieldLink "RealDeskModel" (31 : Nat) "RealDeskModel" "thrown" "I") ∈ gtbl := gt_t (k := 326) rfl rfl
theorem tw_327 : (Jvm.Cond.fieldLink "RealDeskModel" (7 : Nat) "RealDeskModel" "minus" "[Z") ∈ gtbl := gt_t (k := 327) rfl rfl
theorem tw_328 : (Jvm.Cond.fieldLink "RealDeskModel" (13 : Nat) "RealDeskModel" "digits" "[J") ∈ gtbl := gt_t (k := 328) rfl rfl
theorem tw_329 : (Jvm.Cond.fieldLink "RealDeskModel" (17 : Nat) "RealDeskModel" "powers" "[I") ∈ gtbl := gt_t (k := 329) rfl rfl
theorem tw_330 : (Jvm.Cond.fieldLink "RealDeskModel" (39 : Nat) "RealDeskModel" "below" "Z") ∈ gtbl := gt_t (k := 330) rfl rfl
theorem tw_331 : (Jvm.Cond.fieldLink "RealDeskModel" (47 : Nat) "RealDeskModel" "m" "J") ∈ gtbl := gt_t (k := 331) rfl rfl
theorem tw_332 : (Jvm.Cond.fieldLink "RealDeskModel" (51 : Nat) "RealDeskModel" "e" "I") ∈ gtbl := gt_t (k := 332) rfl rfl
theorem tw_333 : (Jvm.Cond.fieldLink "RealDeskModel" (24 : Nat) "RealDeskModel" "a" "LRealDeskModel$Big;") ∈ gtbl := gt_t (k := 333) rfl rfl
theorem tw_334 : (Jvm.Cond.fieldLink "RealDeskModel" (28 : Nat) "RealDeskModel" "b" "LRealDeskModel$Big;") ∈ gtbl := gt_t (k := 334) rfl rfl
theorem tw_335 : (Jvm.Cond.lays "RealDeskModel" "RealDeskModel" "thrown" "I") ∈ gtbl := gt_t (k := 335) rfl rfl
theorem tw_336 : (Jvm.Cond.soleField "RealDeskModel" "thrown") ∈ gtbl := gt_t (k := 336) rfl rfl
theorem tw_337 : (Jvm.Cond.laysFinal "RealDeskModel" "RealDeskModel" "minus" "[Z") ∈ gtbl := gt_t (k := 337) rfl rfl
theorem tw_338 : (Jvm.Cond.soleField "RealDeskModel" "minus") ∈ gtbl := gt_t (k := 338) rfl rfl
theorem tw_339 : (Jvm.Cond.laysFinal "RealDeskModel" "RealDeskModel" "digits" "[J") ∈ gtbl := gt_t (k := 339) rfl rfl
theorem tw_340 : (Jvm.Cond.soleField "RealDeskModel" "digits") ∈ gtbl := gt_t (k := 340) rfl rfl
theorem tw_341 : (Jvm.Cond.laysFinal "RealDeskModel" "RealDeskModel" "powers" "[I") ∈ gtbl := gt_t (k := 341) rfl rfl
theorem tw_342 : (Jvm.Cond.soleField "RealDeskModel" "powers") ∈ gtbl := gt_t (k := 342) rfl rfl
theorem tw_343 : (Jvm.Cond.lays "RealDeskModel" "RealDeskModel" "below" "Z") ∈ gtbl := gt_t (k := 343) rfl rfl
theorem tw_344 : (Jvm.Cond.soleField "RealDeskModel" "below") ∈ gtbl := gt_t (k := 344) rfl rfl
theorem tw_345 : (Jvm.Cond.lays "RealDeskModel" "RealDeskModel" "m" "J") ∈ gtbl := gt_t (k := 345) rfl rfl
theorem tw_346 : (Jvm.Cond.soleField "RealDeskModel" "m") ∈ gtbl := gt_t (k := 346) rfl rfl
theorem tw_347 : (Jvm.Cond.lays "RealDeskModel" "RealDeskModel" "e" "I") ∈ gtbl := gt_t (k := 347) rfl rfl
theorem tw_348 : (Jvm.Cond.soleField "RealDeskModel" "e") ∈ gtbl := gt_t (k := 348) rfl rfl
theorem tw_349 : (Jvm.Cond.laysFinal "RealDeskModel" "RealDeskModel" "a" "LRealDeskModel$Big;") ∈ gtbl := gt_t (k := 349) rfl rfl
theorem tw_350 : (Jvm.Cond.soleField "RealDeskModel" "a") ∈ gtbl := gt_t (k := 350) rfl rfl
theorem tw_351 : (Jvm.Cond.laysFinal "RealDeskModel" "RealDeskModel" "b" "LRealDeskModel$Big;") ∈ gtbl := gt_t (k := 351) rfl rfl
theorem tw_352 : (Jvm.Cond.soleField "RealDeskModel" "b") ∈ gtbl := gt_t (k := 352) rfl rfl
theorem tw_353 : (Jvm.Cond.superclass "RealDeskModel" "java/lang/Object") ∈ gtbl := gt_t (k := 353) rfl rfl
theorem tw_354 : (Jvm.Cond.methodLink "RealDeskLaw" (59 : Nat) ({ cls := "RealDeskModel", name := "thrown", desc := "()I" } : Jvm.MethodName)) ∈ gtbl := gt_t (k := 354) rfl rfl
theorem tw_355 : (Jvm.Cond.instanceMethod ({ cls := "RealDeskModel", name := "thrown", desc := "()I" } : Jvm.MethodName)) ∈ gtbl := gt_t (k := 355) rfl rfl
theorem tw_356 : (Jvm.Cond.selects "RealDeskModel" ({ cls := "RealDeskModel", name := "thrown", desc := "()I" } : Jvm.MethodName) ({ cls := "RealDeskModel", name := "thrown", desc := "()I" } : Jvm.MethodName)) ∈ gtbl := gt_t (k := 356) rfl rfl
theorem tw_357 : (Jvm.Cond.code ({ cls := "RealDeskModel", name := "thrown", desc := "()I" } : Jvm.MethodName) prog_3_method_2_code (1 : Nat) (Option.some Jvm.ClassFile.FieldType.int)) ∈ gtbl := gt_t (k := 357) rfl rfl
theorem tw_358 : (Jvm.Cond.methodLink "RealDeskLaw" (58 : Nat) ({ cls := "RealDeskModel", name := "set", desc := "(IJI)I" } : Jvm.MethodName)) ∈ gtbl := gt_t (k := 358) rfl rfl
theorem tw_359 : (Jvm.Cond.instanceMethod ({ cls := "RealDeskModel", name := "set", desc := "(IJI)I" } : Jvm.MethodName)) ∈ gtbl := gt_t (k := 359) rfl rfl
theorem tw_360 : (Jvm.Cond.selects "RealDeskModel" ({ cls := "RealDeskModel", name := "set", desc := "(IJI)I" } : Jvm.MethodName) ({ cls := "RealDeskModel", name := "set", desc := "(IJI)I" } : Jvm.MethodName)) ∈ gtbl := gt_t (k := 360) rfl rfl
theorem tw_361 : (Jvm.Cond.code ({ cls := "RealDeskModel", name := "set", desc := "(IJI)I" } : Jvm.MethodName) prog_3_method_10_code (6 : Nat) (Option.some Jvm.ClassFile.FieldType.int)) ∈ gtbl := gt_t (k := 361) rfl rfl
theorem tw_362 : (Jvm.Cond.methodLink "RealDeskModel" (70 : Nat) ({ cls := "RealDeskModel", name := "isRegister", desc := "(I)Z" } : Jvm.MethodName)) ∈ gtbl := gt_t (k := 362) rfl rfl
theorem tw_363 : (Jvm.Cond.static ({ cls := "RealDeskModel", name := "isRegister", desc := "(I)Z" } : Jvm.MethodName)) ∈ gtbl := gt_t (k := 363) rfl rfl
theorem tw_364 : (Jvm.Cond.code ({ cls := "RealDeskModel", name := "isRegister", desc := "(I)Z" } : Jvm.MethodName) prog_3_method_4_code (1 : Nat) (Option.some Jvm.ClassFile.FieldType.boolean)) ∈ gtbl := gt_t (k := 364) rfl rfl
theorem tw_365 : (Jvm.Cond.constantLong "RealDeskModel" (73 : Nat) (-9007199254740992 : Int64)) ∈ gtbl := gt_t (k := 365) rfl rfl
theorem tw_366 : (Jvm.Cond.constantLong "RealDeskModel" (66 : Nat) (9007199254740992 : Int64)) ∈ gtbl := gt_t (k := 366) rfl rfl
theorem tw_367 : (Jvm.Cond.methodLink "RealDeskModel" (75 : Nat) ({ cls := "RealDeskModel", name := "within", desc := "(III)Z" } : Jvm.MethodName)) ∈ gtbl := gt_t (k := 367) rfl rfl
theorem tw_368 : (Jvm.Cond.static ({ cls := "RealDeskModel", name := "within", desc := "(III)Z" } : Jvm.MethodName)) ∈ gtbl := gt_t (k := 368) rfl rfl
theorem tw_369 : (Jvm.Cond.code ({ cls := "RealDeskModel", name := "within", desc := "(III)Z" } : Jvm.MethodName) prog_3_method_5_code (3 : Nat) (Option.some Jvm.ClassFile.FieldType.boolean)) ∈ gtbl := gt_t (k := 369) rfl rfl
theorem tw_370 : (Jvm.Cond.methodLink "RealDeskModel" (79 : Nat) ({ cls := "RealDeskModel$Big", name := "set", desc := "(J)V" } : Jvm.MethodName)) ∈ gtbl := gt_t (k := 370) rfl rfl
theorem tw_371 : (Jvm.Cond.instanceMethod ({ cls := "RealDeskModel$Big", name := "set", desc := "(J)V" } : Jvm.MethodName)) ∈ gtbl := gt_t (k := 371) rfl rfl
theorem tw_372 : (Jvm.Cond.selects "RealDeskModel$Big" ({ cls := "RealDeskModel$Big", name := "set", desc := "(J)V" } : Jvm.MethodName) ({ cls := "RealDeskModel$Big", name := "set", desc := "(J)V" } : Jvm.MethodName)) ∈ gtbl := gt_t (k := 372) rfl rfl
theorem tw_373 : (Jvm.Cond.code ({ cls := "RealDeskModel$Big", name := "set", desc := "(J)V" } : Jvm.MethodName) prog_4_method_2_code (4 : Nat) (Option.none : Option Jvm.ClassFile.FieldType)) ∈ gtbl := gt_t (k := 373) rfl rfl
theorem tw_374 : (Jvm.Cond.constantLong "RealDeskModel$Big" (13 : Nat) (16777215 : Int64)) ∈ gtbl := gt_t (k := 374) rfl rfl
theorem tw_375 : (Jvm.Cond.methodLink "RealDeskModel" (83 : Nat) ({ cls := "RealDeskModel", name := "nearest", desc := "(ZIZ)I" } : Jvm.MethodName)) ∈ gtbl := gt_t (k := 375) rfl rfl
theorem tw_377 : (Jvm.Cond.instanceMethod ({ cls := "RealDeskModel", name := "nearest", desc := "(ZIZ)I" } : Jvm.MethodName)) ∈ gtbl := gt_t (k := 377) rfl rfl
theorem tw_378 : (Jvm.Cond.code ({ cls := "RealDeskModel", name := "nearest", desc := "(ZIZ)I" } : Jvm.MethodName) prog_3_method_6_code (7 : Nat) (Option.some Jvm.ClassFile.FieldType.int)) ∈ gtbl := gt_t (k := 378) rfl rfl
theorem tw_379 : (Jvm.Cond.methodLink "RealDeskModel" (35 : Nat) ({ cls := "RealDeskModel$Big", name := "length", desc := "()I" } : Jvm.MethodName)) ∈ gtbl := gt_t (k := 379) rfl rfl
theorem tw_380 : (Jvm.Cond.instanceMethod ({ cls := "RealDeskModel$Big", name := "length", desc := "()I" } : Jvm.MethodName)) ∈ gtbl := gt_t (k := 380) rfl rfl
theorem tw_381 : (Jvm.Cond.selects "RealDeskModel$Big" ({ cls := "RealDeskModel$Big", name := "length", desc := "()I" } : Jvm.MethodName) ({ cls := "RealDeskModel$Big", name := "length", desc := "()I" } : Jvm.MethodName)) ∈ gtbl := gt_t (k := 381) rfl rfl
theorem tw_382 : (Jvm.Cond.code ({ cls := "RealDeskModel$Big", name := "length", desc := "()I" } : Jvm.MethodName) prog_4_method_5_code (2 : Nat) (Option.some Jvm.ClassFile.FieldType.int)) ∈ gtbl := gt_t (k := 382) rfl rfl
theorem tw_383 : (Jvm.Cond.methodLink "RealDeskModel$Big" (15 : Nat) ({ cls := "RealDeskModel$Big", name := "bit", desc := "(I)Z" } : Jvm.MethodName)) ∈ gtbl := gt_t (k := 383) rfl rfl
theorem tw_384 : (Jvm.Cond.instanceMethod ({ cls := "RealDeskModel$Big", name := "bit", desc := "(I)Z" } : Jvm.MethodName)) ∈ gtbl := gt_t (k := 384) rfl rfl
theorem tw_385 : (Jvm.Cond.selects "RealDeskModel$Big" ({ cls := "RealDeskModel$Big", name := "bit", desc := "(I)Z" } : Jvm.MethodName) ({ cls := "RealDeskModel$Big", name := "bit", desc := "(I)Z" } : Jvm.MethodName)) ∈ gtbl := gt_t (k := 385) rfl rfl
theorem tw_386 : (Jvm.Cond.code ({ cls := "RealDeskModel$Big", name := "bit", desc := "(I)Z" } : Jvm.MethodName) prog_4_method_4_code (2 : Nat) (Option.some Jvm.ClassFile.FieldType.boolean)) ∈ gtbl := gt_t (k := 386) rfl rfl
theorem tw_387 : (Jvm.Cond.methodLink "RealDeskModel" (43 : Nat) ({ cls := "RealDeskModel$Big", name := "places", desc := "(I)J" } : Jvm.MethodName)) ∈ gtbl := gt_t (k := 387) rfl rfl
theorem tw_388 : (Jvm.Cond.instanceMethod ({ cls := "RealDeskModel$Big", name := "places", desc := "(I)J" } : Jvm.MethodName)) ∈ gtbl := gt_t (k := 388) rfl rfl
theorem tw_389 : (Jvm.Cond.selects "RealDeskModel$Big" ({ cls := "RealDeskModel$Big", name := "places", desc := "(I)J" } : Jvm.MethodName) ({ cls := "RealDeskModel$Big", name := "places", desc := "(I)J" } : Jvm.MethodName)) ∈ gtbl := gt_t (k := 389) rfl rfl
theorem tw_390 : (Jvm.Cond.code ({ cls := "RealDeskModel$Big", name := "places", desc := "(I)J" } : Jvm.MethodName) prog_4_method_13_code (5 : Nat) (Option.some Jvm.ClassFile.FieldType.long)) ∈ gtbl := gt_t (k := 390) rfl rfl
theorem tw_391 : (Jvm.Cond.constantLong "RealDeskModel$Big" (31 : Nat) (2 : Int64)) ∈ gtbl := gt_t (k := 391) rfl rfl
theorem tw_392 : (Jvm.Cond.methodLink "RealDeskModel" (54 : Nat) ({ cls := "RealDeskModel$Big", name := "hasBelow", desc := "(I)Z" } : Jvm.MethodName)) ∈ gtbl := gt_t (k := 392) rfl rfl
theorem tw_393 : (Jvm.Cond.instanceMethod ({ cls := "RealDeskModel$Big", name := "hasBelow", desc := "(I)Z" } : Jvm.MethodName)) ∈ gtbl := gt_t (k := 393) rfl rfl
theorem tw_394 : (Jvm.Cond.selects "RealDeskModel$Big" ({ cls := "RealDeskModel$Big", name := "hasBelow", desc := "(I)Z" } : Jvm.MethodName) ({ cls := "RealDeskModel$Big", name := "hasBelow", desc := "(I)Z" } : Jvm.MethodName)) ∈ gtbl := gt_t (k := 394) rfl rfl
theorem tw_395 : (Jvm.Cond.code ({ cls := "RealDeskModel$Big", name := "hasBelow", desc := "(I)Z" } : Jvm.MethodName) prog_4_method_14_code (4 : Nat) (Option.some Jvm.ClassFile.FieldType.boolean)) ∈ gtbl := gt_t (k := 395) rfl rfl
theorem tw_396 : (Jvm.Cond.methodLink "RealDeskModel" (58 : Nat) ({ cls := "RealDeskModel$Big", name := "bit", desc := "(I)Z" } : Jvm.MethodName)) ∈ gtbl := gt_t (k := 396) rfl rfl
theorem tw_397 : (Jvm.Cond.constantLong "RealDeskModel" (61 : Nat) (2 : Int64)) ∈ gtbl := gt_t (k := 397) rfl rfl
theorem tw_398 : (Jvm.Cond.methodLink "RealDeskModel" (63 : Nat) ({ cls := "RealDeskModel", name := "settle", desc := "()I" } : Jvm.MethodName)) ∈ gtbl := gt_t (k := 398) rfl rfl
theorem tw_400 : (Jvm.Cond.instanceMethod ({ cls := "RealDeskModel", name := "settle", desc := "()I" } : Jvm.MethodName)) ∈ gtbl := gt_t (k := 400) rfl rfl
set_option maxRecDepth 20000 in
theorem tw_401 : (Jvm.Cond.code ({ cls := "RealDeskModel", name := "settle", desc := "()I" } : Jvm.MethodName) prog_3_method_7_code (1 : Nat) (Option.some Jvm.ClassFile.FieldType.int)) ∈ gtbl := gt_t (k := 401) rfl rfl
set_option maxRecDepth 20000 in
theorem tw_402 : (Jvm.Cond.constantLong "RealDeskModel" (68 : Nat) (4503599627370496 : Int64)) ∈ gtbl := gt_t (k := 402) rfl rfl
set_option maxRecDepth 20000 in
theorem tw_403 : (Jvm.Cond.methodLink "RealDeskModel" (87 : Nat) ({ cls := "RealDeskModel", name := "keep", desc := "(II)I" } : Jvm.MethodName)) ∈ gtbl := gt_t (k := 403) rfl rfl
set_option maxRecDepth 20000 in
theorem tw_405 : (Jvm.Cond.instanceMethod ({ cls := "RealDeskModel", name := "keep", desc := "(II)I" } : Jvm.MethodName)) ∈ gtbl := gt_t (k := 405) rfl rfl
set_option maxRecDepth 20000 in
theorem tw_406 : (Jvm.Cond.code ({ cls := "RealDeskModel", name := "keep", desc := "(II)I" } : Jvm.MethodName) prog_3_method_9_code (3 : Nat) (Option.some Jvm.ClassFile.FieldType.int)) ∈ gtbl := gt_t (k := 406) rfl rfl
set_option maxRecDepth 20000 in
theorem tw_407 : (Jvm.Cond.methodLink "RealDeskLaw" (66 : Nat) ({ cls := "RealDeskModel", name := "combine", desc := "(IIII)I" } : Jvm.MethodName)) ∈ gtbl := gt_t (k := 407) rfl rfl
set_option maxRecDepth 20000 in
theorem tw_408 : (Jvm.Cond.instanceMethod ({ cls := "RealDeskModel", name := "combine", desc := "(IIII)I" } : Jvm.MethodName)) ∈ gtbl := gt_t (k := 408) rfl rfl
set_option maxRecDepth 20000 in
theorem tw_409 : (Jvm.Cond.selects "RealDeskModel" ({ cls := "RealDeskModel", name := "combine", desc := "(IIII)I" } : Jvm.MethodName) ({ cls := "RealDeskModel", name := "combine", desc := "(IIII)I" } : Jvm.MethodName)) ∈ gtbl := gt_t (k := 409) rfl rfl
set_option maxRecDepth 20000 in
theorem tw_410 : (Jvm.Cond.code ({ cls := "RealDeskModel", name := "combine", desc := "(IIII)I" } : Jvm.MethodName) prog_3_method_25_code (5 : Nat) (Option.some Jvm.ClassFile.FieldType.int)) ∈ gtbl := gt_t (k := 410) rfl rfl
set_option maxRecDepth 20000 in
theorem tw_411 : (Jvm.Cond.methodLink "RealDeskModel" (163 : Nat) ({ cls := "RealDeskModel", name := "combined", desc := "(III)I" } : Jvm.MethodName)) ∈ gtbl := gt_t (k := 411) rfl rfl
set_option maxRecDepth 20000 in
theorem tw_413 : (Jvm.Cond.instanceMethod ({ cls := "RealDeskModel", name := "combined", desc := "(III)I" } : Jvm.MethodName)) ∈ gtbl := gt_t (k := 413) rfl rfl
set_option maxRecDepth 20000 in
theorem tw_414 : (Jvm.Cond.code ({ cls := "RealDeskModel", name := "combined", desc := "(III)I" } : Jvm.MethodName) prog_3_method_24_code (4 : Nat) (Option.some Jvm.ClassFile.FieldType.int)) ∈ gtbl := gt_t (k := 414) rfl rfl
set_option maxRecDepth 20000 in
theorem tw_415 : (Jvm.Cond.methodLink "RealDeskModel" (139 : Nat) ({ cls := "RealDeskModel", name := "sum", desc := "(IIZ)I" } : Jvm.MethodName)) ∈ gtbl := gt_t (k := 415) rfl rfl
set_option maxRecDepth 20000 in
theorem tw_417 : (Jvm.Cond.instanceMethod ({ cls := "RealDeskModel", name := "sum", desc := "(IIZ)I" } : Jvm.MethodName)) ∈ gtbl := gt_t (k := 417) rfl rfl
set_option maxRecDepth 20000 in
theorem tw_418 : (Jvm.Cond.code ({ cls := "RealDeskModel", name := "sum", desc := "(IIZ)I" } : Jvm.MethodName) prog_3_method_15_code (5 : Nat) (Option.some Jvm.ClassFile.FieldType.int)) ∈ gtbl := gt_t (k := 418) rfl rfl
set_option maxRecDepth 20000 in
theorem tw_419 : (Jvm.Cond.methodLink "RealDeskModel" (115 : Nat) ({ cls := "RealDeskModel", name := "exactSum", desc := "(IIZ)Z" } : Jvm.MethodName)) ∈ gtbl := gt_t (k := 419) rfl rfl
set_option maxRecDepth 20000 in
theorem tw_421 : (Jvm.Cond.instanceMethod ({ cls := "RealDeskModel", name := "exactSum", desc := "(IIZ)Z" } : Jvm.MethodName)) ∈ gtbl := gt_t (k := 421) rfl rfl
set_option maxRecDepth 20000 in
theorem tw_422 : (Jvm.Cond.code ({ cls := "RealDeskModel", name := "exactSum", desc := "(IIZ)Z" } : Jvm.MethodName) prog_3_method_13_code (6 : Nat) (Option.some Jvm.ClassFile.FieldType.boolean)) ∈ gtbl := gt_t (k := 422) rfl rfl
set_option maxRecDepth 20000 in
theorem tw_423 : (Jvm.Cond.methodLink "RealDeskModel" (94 : Nat) ({ cls := "RealDeskModel$Big", name := "up", desc := "(I)V" } : Jvm.MethodName)) ∈ gtbl := gt_t (k := 423) rfl rfl
set_option maxRecDepth 20000 in
theorem tw_424 : (Jvm.Cond.instanceMethod ({ cls := "RealDeskModel$Big", name := "up", desc := "(I)V" } : Jvm.MethodName)) ∈ gtbl := gt_t (k := 424) rfl rfl
set_option maxRecDepth 20000 in
theorem tw_425 : (Jvm.Cond.selects "RealDeskModel$Big" ({ cls := "RealDeskModel$Big", name := "up", desc := "(I)V" } : Jvm.MethodName) ({ cls := "RealDeskModel$Big", name := "up", desc := "(I)V" } : Jvm.MethodName)) ∈ gtbl := gt_t (k := 425) rfl rfl
set_option maxRecDepth 20000 in
theorem tw_426 : (Jvm.Cond.code ({ cls := "RealDeskModel$Big", name := "up", desc := "(I)V" } : Jvm.MethodName) prog_4_method_7_code (6 : Nat) (Option.none : Option Jvm.ClassFile.FieldType)) ∈ gtbl := gt_t (k := 426) rfl rfl
set_option maxRecDepth 20000 in
theorem tw_427 : (Jvm.Cond.constant "RealDeskModel$Big" (19 : Nat) (16777215 : Int32)) ∈ gtbl := gt_t (k := 427) rfl rfl
set_option maxRecDepth 20000 in
theorem tw_428 : (Jvm.Cond.methodLink "RealDeskModel" (98 : Nat) ({ cls := "RealDeskModel$Big", name := "add", desc := "(LRealDeskModel$Big;)V" } : Jvm.MethodName)) ∈ gtbl := gt_t (k := 428) rfl rfl
set_option maxRecDepth 20000 in
theorem tw_429 : (Jvm.Cond.instanceMethod ({ cls := "RealDeskModel$Big", name := "add", desc := "(LRealDeskModel$Big;)V" } : Jvm.MethodName)) ∈ gtbl := gt_t (k := 429) rfl rfl
set_option maxRecDepth 20000 in
theorem tw_430 : (Jvm.Cond.selects "RealDeskModel$Big" ({ cls := "RealDeskModel$Big", name := "add", desc := "(LRealDeskModel$Big;)V" } : Jvm.MethodName) ({ cls := "RealDeskModel$Big", name := "add", desc := "(LRealDeskModel$Big;)V" } : Jvm.MethodName)) ∈ gtbl := gt_t (k := 430) rfl rfl
set_option maxRecDepth 20000 in
theorem tw_431 : (Jvm.Cond.code ({ cls := "RealDeskModel$Big", name := "add", desc := "(LRealDeskModel$Big;)V" } : Jvm.MethodName) prog_4_method_8_code (5 : Nat) (Option.none : Option Jvm.ClassFile.FieldType)) ∈ gtbl := gt_t (k := 431) rfl rfl
set_option maxRecDepth 20000 in
theorem tw_432 : (Jvm.Cond.methodLink "RealDeskModel" (102 : Nat) ({ cls := "RealDeskModel$Big", name := "compare", desc := "(LRealDeskModel$Big;)I" } : Jvm.MethodName)) ∈ gtbl := gt_t (k := 432) rfl rfl
set_option maxRecDepth 20000 in
theorem tw_433 : (Jvm.Cond.instanceMethod ({ cls := "RealDeskModel$Big", name := "compare", desc := "(LRealDeskModel$Big;)I" } : Jvm.MethodName)) ∈ gtbl := gt_t (k := 433) rfl rfl
set_option maxRecDepth 20000 in
theorem tw_434 : (Jvm.Cond.selects "RealDeskModel$Big" ({ cls := "RealDeskModel$Big", name := "compare", desc := "(LRealDeskModel$Big;)I" } : Jvm.MethodName) ({ cls := "RealDeskModel$Big", name := "compare", desc := "(LRealDeskModel$Big;)I" } : Jvm.MethodName)) ∈ gtbl := gt_t (k := 434) rfl rfl
set_option maxRecDepth 20000 in
theorem tw_435 : (Jvm.Cond.code ({ cls := "RealDeskModel$Big", name := "compare", desc := "(LRealDeskModel$Big;)I" } : Jvm.MethodName) prog_4_method_10_code (3 : Nat) (Option.some Jvm.ClassFile.FieldType.int)) ∈ gtbl := gt_t (k := 435) rfl rfl
set_option maxRecDepth 20000 in
theorem tw_436 : (Jvm.Cond.methodLink "RealDeskModel" (106 : Nat) ({ cls := "RealDeskModel$Big", name := "less", desc := "(LRealDeskModel$Big;)V" } : Jvm.MethodName)) ∈ gtbl := gt_t (k := 436) rfl rfl
set_option maxRecDepth 20000 in
theorem tw_437 : (Jvm.Cond.instanceMethod ({ cls := "RealDeskModel$Big", name := "less", desc := "(LRealDeskModel$Big;)V" } : Jvm.MethodName)) ∈ gtbl := gt_t (k := 437) rfl rfl
set_option maxRecDepth 20000 in
theorem tw_438 : (Jvm.Cond.selects "RealDeskModel$Big" ({ cls := "RealDeskModel$Big", name := "less", desc := "(LRealDeskModel$Big;)V" } : Jvm.MethodName) ({ cls := "RealDeskModel$Big", name := "less", desc := "(LRealDeskModel$Big;)V" } : Jvm.MethodName)) ∈ gtbl := gt_t (k := 438) rfl rfl
set_option maxRecDepth 20000 in
theorem tw_439 : (Jvm.Cond.code ({ cls := "RealDeskModel$Big", name := "less", desc := "(LRealDeskModel$Big;)V" } : Jvm.MethodName) prog_4_method_9_code (5 : Nat) (Option.none : Option Jvm.ClassFile.FieldType)) ∈ gtbl := gt_t (k := 439) rfl rfl
set_option maxRecDepth 20000 in
theorem tw_440 : (Jvm.Cond.methodLink "RealDeskModel" (109 : Nat) ({ cls := "RealDeskModel", name := "swap", desc := "()V" } : Jvm.MethodName)) ∈ gtbl := gt_t (k := 440) rfl rfl
set_option maxRecDepth 20000 in
theorem tw_442 : (Jvm.Cond.instanceMethod ({ cls := "RealDeskModel", name := "swap", desc := "()V" } : Jvm.MethodName)) ∈ gtbl := gt_t (k := 442) rfl rfl
set_option maxRecDepth 20000 in
theorem tw_443 : (Jvm.Cond.code ({ cls := "RealDeskModel", name := "swap", desc := "()V" } : Jvm.MethodName) prog_3_method_14_code (3 : Nat) (Option.none : Option Jvm.ClassFile.FieldType)) ∈ gtbl := gt_t (k := 443) rfl rfl
set_option maxRecDepth 20000 in
theorem tw_444 : (Jvm.Cond.methodLink "RealDeskModel" (137 : Nat) ({ cls := "RealDeskModel", name := "product", desc := "(II)I" } : Jvm.MethodName)) ∈ gtbl := gt_t (k := 444) rfl rfl
set_option maxRecDepth 20000 in
theorem tw_446 : (Jvm.Cond.instanceMethod ({ cls := "RealDeskModel", name := "product", desc := "(II)I" } : Jvm.MethodName)) ∈ gtbl := gt_t (k := 446) rfl rfl
set_option maxRecDepth 20000 in
theorem tw_447 : (Jvm.Cond.code ({ cls := "RealDeskModel", name := "product", desc := "(II)I" } : Jvm.MethodName) prog_3_method_16_code (3 : Nat) (Option.some Jvm.ClassFile.FieldType.int)) ∈ gtbl := gt_t (k := 447) rfl rfl
set_option maxRecDepth 20000 in
theorem tw_448 : (Jvm.Cond.methodLink "RealDeskModel" (119 : Nat) ({ cls := "RealDeskModel$Big", name := "product", desc := "(JJ)V" } : Jvm.MethodName)) ∈ gtbl := gt_t (k := 448) rfl rfl
set_option maxRecDepth 20000 in
theorem tw_449 : (Jvm.Cond.instanceMethod ({ cls := "RealDeskModel$Big", name := "product", desc := "(JJ)V" } : Jvm.MethodName)) ∈ gtbl := gt_t (k := 449) rfl rfl
set_option maxRecDepth 20000 in
theorem tw_450 : (Jvm.Cond.selects "RealDeskModel$Big" ({ cls := "RealDeskModel$Big", name := "product", desc := "(JJ)V" } : Jvm.MethodName) ({ cls := "RealDeskModel$Big", name := "product", desc := "(JJ)V" } : Jvm.MethodName)) ∈ gtbl := gt_t (k := 450) rfl rfl
set_option maxRecDepth 20000 in
theorem tw_451 : (Jvm.Cond.code ({ cls := "RealDeskModel$Big", name := "product", desc := "(JJ)V" } : Jvm.MethodName) prog_4_method_11_code (6 : Nat) (Option.none : Option Jvm.ClassFile.FieldType)) ∈ gtbl := gt_t (k := 451) rfl rfl
set_option maxRecDepth 20000 in
theorem tw_452 : (Jvm.Cond.methodLink "RealDeskModel$Big" (20 : Nat) ({ cls := "RealDeskModel$Big", name := "set", desc := "(J)V" } : Jvm.MethodName)) ∈ gtbl := gt_t (k := 452) rfl rfl
set_option maxRecDepth 20000 in
theorem tw_453 : (Jvm.Cond.methodLink "RealDeskModel$Big" (24 : Nat) ({ cls := "RealDeskModel$Big", name := "twice", desc := "(Z)V" } : Jvm.MethodName)) ∈ gtbl := gt_t (k := 453) rfl rfl
set_option maxRecDepth 20000 in
theorem tw_454 : (Jvm.Cond.instanceMethod ({ cls := "RealDeskModel$Big", name := "twice", desc := "(Z)V" } : Jvm.MethodName)) ∈ gtbl := gt_t (k := 454) rfl rfl
set_option maxRecDepth 20000 in
theorem tw_455 : (Jvm.Cond.selects "RealDeskModel$Big" ({ cls := "RealDeskModel$Big", name := "twice", desc := "(Z)V" } : Jvm.MethodName) ({ cls := "RealDeskModel$Big", name := "twice", desc := "(Z)V" } : Jvm.MethodName)) ∈ gtbl := gt_t (k := 455) rfl rfl
set_option maxRecDepth 20000 in
theorem tw_456 : (Jvm.Cond.code ({ cls := "RealDeskModel$Big", name := "twice", desc := "(Z)V" } : Jvm.MethodName) prog_4_method_6_code (5 : Nat) (Option.none : Option Jvm.ClassFile.FieldType)) ∈ gtbl := gt_t (k := 456) rfl rfl
set_option maxRecDepth 20000 in
theorem tw_457 : (Jvm.Cond.methodLink "RealDeskModel$Big" (28 : Nat) ({ cls := "RealDeskModel$Big", name := "addLong", desc := "(J)V" } : Jvm.MethodName)) ∈ gtbl := gt_t (k := 457) rfl rfl
set_option maxRecDepth 20000 in
theorem tw_458 : (Jvm.Cond.instanceMethod ({ cls := "RealDeskModel$Big", name := "addLong", desc := "(J)V" } : Jvm.MethodName)) ∈ gtbl := gt_t (k := 458) rfl rfl
set_option maxRecDepth 20000 in
theorem tw_459 : (Jvm.Cond.selects "RealDeskModel$Big" ({ cls := "RealDeskModel$Big", name := "addLong", desc := "(J)V" } : Jvm.MethodName) ({ cls := "RealDeskModel$Big", name := "addLong", desc := "(J)V" } : Jvm.MethodName)) ∈ gtbl := gt_t (k := 459) rfl rfl
set_option maxRecDepth 20000 in
theorem tw_460 : (Jvm.Cond.code ({ cls := "RealDeskModel$Big", name := "addLong", desc := "(J)V" } : Jvm.MethodName) prog_4_method_12_code (6 : Nat) (Option.none : Option Jvm.ClassFile.FieldType)) ∈ gtbl := gt_t (k := 460) rfl rfl
set_option maxRecDepth 20000 in
theorem tw_461 : (Jvm.Cond.methodLink "RealDeskModel" (143 : Nat) ({ cls := "RealDeskModel", name := "quotient", desc := "(ZJIJI)I" } : Jvm.MethodName)) ∈ gtbl := gt_t (k := 461) rfl rfl
set_option maxRecDepth 20000 in
theorem tw_463 : (Jvm.Cond.instanceMethod ({ cls := "RealDeskModel", name := "quotient", desc := "(ZJIJI)I" } : Jvm.MethodName)) ∈ gtbl := gt_t (k := 463) rfl rfl
set_option maxRecDepth 20000 in
theorem tw_464 : (Jvm.Cond.code ({ cls := "RealDeskModel", name := "quotient", desc := "(ZJIJI)I" } : Jvm.MethodName) prog_3_method_17_code (11 : Nat) (Option.some Jvm.ClassFile.FieldType.int)) ∈ gtbl := gt_t (k := 464) rfl rfl
set_option maxRecDepth 20000 in
theorem tw_465 : (Jvm.Cond.methodLink "RealDeskModel" (123 : Nat) ({ cls := "RealDeskModel$Big", name := "twice", desc := "(Z)V" } : Jvm.MethodName)) ∈ gtbl := gt_t (k := 465) rfl rfl
set_option maxRecDepth 20000 in
theorem tw_466 : (Jvm.Cond.methodLink "RealDeskModel" (147 : Nat) ({ cls := "RealDeskModel", name := "rest", desc := "(II)I" } : Jvm.MethodName)) ∈ gtbl := gt_t (k := 466) rfl rfl
set_option maxRecDepth 20000 in
theorem tw_468 : (Jvm.Cond.instanceMethod ({ cls := "RealDeskModel", name := "rest", desc := "(II)I" } : Jvm.MethodName)) ∈ gtbl := gt_t (k := 468) rfl rfl
set_option maxRecDepth 20000 in
theorem tw_469 : (Jvm.Cond.code ({ cls := "RealDeskModel", name := "rest", desc := "(II)I" } : Jvm.MethodName) prog_3_method_18_code (7 : Nat) (Option.some Jvm.ClassFile.FieldType.int)) ∈ gtbl := gt_t (k := 469) rfl rfl
set_option maxRecDepth 20000 in
theorem tw_470 : (Jvm.Cond.methodLink "RealDeskModel" (127 : Nat) ({ cls := "RealDeskModel", name := "take", desc := "(I)V" } : Jvm.MethodName)) ∈ gtbl := gt_t (k := 470) rfl rfl
set_option maxRecDepth 20000 in
theorem tw_472 : (Jvm.Cond.instanceMethod ({ cls := "RealDeskModel", name := "take", desc := "(I)V" } : Jvm.MethodName)) ∈ gtbl := gt_t (k := 472) rfl rfl
set_option maxRecDepth 20000 in
theorem tw_473 : (Jvm.Cond.code ({ cls := "RealDeskModel", name := "take", desc := "(I)V" } : Jvm.MethodName) prog_3_method_8_code (2 : Nat) (Option.none : Option Jvm.ClassFile.FieldType)) ∈ gtbl := gt_t (k := 473) rfl rfl
set_option maxRecDepth 20000 in
theorem tw_474 : (Jvm.Cond.methodLink "RealDeskModel" (150 : Nat) ({ cls := "RealDeskModel", name := "compareNumbers", desc := "(II)I" } : Jvm.MethodName)) ∈ gtbl := gt_t (k := 474) rfl rfl
set_option maxRecDepth 20000 in
theorem tw_476 : (Jvm.Cond.instanceMethod ({ cls := "RealDeskModel", name := "compareNumbers", desc := "(II)I" } : Jvm.MethodName)) ∈ gtbl := gt_t (k := 476) rfl rfl
set_option maxRecDepth 20000 in
theorem tw_477 : (Jvm.Cond.code ({ cls := "RealDeskModel", name := "compareNumbers", desc := "(II)I" } : Jvm.MethodName) prog_3_method_12_code (4 : Nat) (Option.some Jvm.ClassFile.FieldType.int)) ∈ gtbl := gt_t (k := 477) rfl rfl
set_option maxRecDepth 20000 in
theorem tw_478 : (Jvm.Cond.methodLink "RealDeskModel" (91 : Nat) ({ cls := "RealDeskModel", name := "sizes", desc := "(II)I" } : Jvm.MethodName)) ∈ gtbl := gt_t (k := 478) rfl rfl
set_option maxRecDepth 20000 in
theorem tw_480 : (Jvm.Cond.instanceMethod ({ cls := "RealDeskModel", name := "sizes", desc := "(II)I" } : Jvm.MethodName)) ∈ gtbl := gt_t (k := 480) rfl rfl
set_option maxRecDepth 20000 in
theorem tw_481 : (Jvm.Cond.code ({ cls := "RealDeskModel", name := "sizes", desc := "(II)I" } : Jvm.MethodName) prog_3_method_11_code (3 : Nat) (Option.some Jvm.ClassFile.FieldType.int)) ∈ gtbl := gt_t (k := 481) rfl rfl
set_option maxRecDepth 20000 in
theorem tw_482 : (Jvm.Cond.methodLink "RealDeskModel" (153 : Nat) ({ cls := "RealDeskModel", name := "pick", desc := "(I)I" } : Jvm.MethodName)) ∈ gtbl := gt_t (k := 482) rfl rfl
set_option maxRecDepth 20000 in
theorem tw_484 : (Jvm.Cond.instanceMethod ({ cls := "RealDeskModel", name := "pick", desc := "(I)I" } : Jvm.MethodName)) ∈ gtbl := gt_t (k := 484) rfl rfl
set_option maxRecDepth 20000 in
theorem tw_485 : (Jvm.Cond.code ({ cls := "RealDeskModel", name := "pick", desc := "(I)I" } : Jvm.MethodName) prog_3_method_23_code (2 : Nat) (Option.some Jvm.ClassFile.FieldType.int)) ∈ gtbl := gt_t (k := 485) rfl rfl
set_option maxRecDepth 20000 in
theorem tw_486 : (Jvm.Cond.methodLink "RealDeskModel" (157 : Nat) ({ cls := "RealDeskModel", name := "sumError", desc := "(II)I" } : Jvm.MethodName)) ∈ gtbl := gt_t (k := 486) rfl rfl
set_option maxRecDepth 20000 in
theorem tw_488 : (Jvm.Cond.instanceMethod ({ cls := "RealDeskModel", name := "sumError", desc := "(II)I" } : Jvm.MethodName)) ∈ gtbl := gt_t (k := 488) rfl rfl
set_option maxRecDepth 20000 in
theorem tw_489 : (Jvm.Cond.code ({ cls := "RealDeskModel", name := "sumError", desc := "(II)I" } : Jvm.MethodName) prog_3_method_20_code (5 : Nat) (Option.some Jvm.ClassFile.FieldType.int)) ∈ gtbl := gt_t (k := 489) rfl rfl
set_option maxRecDepth 20000 in
theorem tw_490 : (Jvm.Cond.methodLink "RealDeskModel" (130 : Nat) ({ cls := "RealDeskModel", name := "lower", desc := "(I)V" } : Jvm.MethodName)) ∈ gtbl := gt_t (k := 490) rfl rfl
set_option maxRecDepth 20000 in
theorem tw_492 : (Jvm.Cond.instanceMethod ({ cls := "RealDeskModel", name := "lower", desc := "(I)V" } : Jvm.MethodName)) ∈ gtbl := gt_t (k := 492) rfl rfl
set_option maxRecDepth 20000 in
theorem tw_493 : (Jvm.Cond.code ({ cls := "RealDeskModel", name := "lower", desc := "(I)V" } : Jvm.MethodName) prog_3_method_21_code (2 : Nat) (Option.none : Option Jvm.ClassFile.FieldType)) ∈ gtbl := gt_t (k := 493) rfl rfl
set_option maxRecDepth 20000 in
theorem tw_494 : (Jvm.Cond.methodLink "RealDeskModel" (133 : Nat) ({ cls := "RealDeskModel", name := "errorOf", desc := "(ZI)I" } : Jvm.MethodName)) ∈ gtbl := gt_t (k := 494) rfl rfl
set_option maxRecDepth 20000 in
theorem tw_496 : (Jvm.Cond.instanceMethod ({ cls := "RealDeskModel", name := "errorOf", desc := "(ZI)I" } : Jvm.MethodName)) ∈ gtbl := gt_t (k := 496) rfl rfl
set_option maxRecDepth 20000 in
theorem tw_497 : (Jvm.Cond.code ({ cls := "RealDeskModel", name := "errorOf", desc := "(ZI)I" } : Jvm.MethodName) prog_3_method_19_code (4 : Nat) (Option.some Jvm.ClassFile.FieldType.int)) ∈ gtbl := gt_t (k := 497) rfl rfl
set_option maxRecDepth 20000 in
theorem tw_498 : (Jvm.Cond.methodLink "RealDeskModel" (160 : Nat) ({ cls := "RealDeskModel", name := "productError", desc := "(II)I" } : Jvm.MethodName)) ∈ gtbl := gt_t (k := 498) rfl rfl
set_option maxRecDepth 20000 in
theorem tw_500 : (Jvm.Cond.instanceMethod ({ cls := "RealDeskModel", name := "productError", desc := "(II)I" } : Jvm.MethodName)) ∈ gtbl := gt_t (k := 500) rfl rfl
set_option maxRecDepth 20000 in
theorem tw_501 : (Jvm.Cond.code ({ cls := "RealDeskModel", name := "productError", desc := "(II)I" } : Jvm.MethodName) prog_3_method_22_code (4 : Nat) (Option.some Jvm.ClassFile.FieldType.int)) ∈ gtbl := gt_t (k := 501) rfl rfl
set_option maxRecDepth 20000 in
theorem tw_502 : (Jvm.Cond.methodLink "RealDeskLaw" (70 : Nat) ({ cls := "RealDeskModel", name := "change", desc := "(III)I" } : Jvm.MethodName)) ∈ gtbl := gt_t (k := 502) rfl rfl
set_option maxRecDepth 20000 in
theorem tw_503 : (Jvm.Cond.instanceMethod ({ cls := "RealDeskModel", name := "change", desc := "(III)I" } : Jvm.MethodName)) ∈ gtbl := gt_t (k := 503) rfl rfl
set_option maxRecDepth 20000 in
theorem tw_504 : (Jvm.Cond.selects "RealDeskModel" ({ cls := "RealDeskModel", name := "change", desc := "(III)I" } : Jvm.MethodName) ({ cls := "RealDeskModel", name := "change", desc := "(III)I" } : Jvm.MethodName)) ∈ gtbl := gt_t (k := 504) rfl rfl
set_option maxRecDepth 20000 in
theorem tw_505 : (Jvm.Cond.code ({ cls := "RealDeskModel", name := "change", desc := "(III)I" } : Jvm.MethodName) prog_3_method_30_code (4 : Nat) (Option.some Jvm.ClassFile.FieldType.int)) ∈ gtbl := gt_t (k := 505) rfl rfl
set_option maxRecDepth 20000 in
theorem tw_506 : (Jvm.Cond.methodLink "RealDeskModel" (181 : Nat) ({ cls := "RealDeskModel", name := "changed", desc := "(II)I" } : Jvm.MethodName)) ∈ gtbl := gt_t (k := 506) rfl rfl
set_option maxRecDepth 20000 in
theorem tw_508 : (Jvm.Cond.instanceMethod ({ cls := "RealDeskModel", name := "changed", desc := "(II)I" } : Jvm.MethodName)) ∈ gtbl := gt_t (k := 508) rfl rfl
set_option maxRecDepth 20000 in
theorem tw_509 : (Jvm.Cond.code ({ cls := "RealDeskModel", name := "changed", desc := "(II)I" } : Jvm.MethodName) prog_3_method_29_code (3 : Nat) (Option.some Jvm.ClassFile.FieldType.int)) ∈ gtbl := gt_t (k := 509) rfl rfl
set_option maxRecDepth 20000 in
theorem tw_510 : (Jvm.Cond.methodLink "RealDeskModel" (171 : Nat) ({ cls := "RealDeskModel", name := "root", desc := "(I)I" } : Jvm.MethodName)) ∈ gtbl := gt_t (k := 510) rfl rfl
set_option maxRecDepth 20000 in
theorem tw_512 : (Jvm.Cond.instanceMethod ({ cls := "RealDeskModel", name := "root", desc := "(I)I" } : Jvm.MethodName)) ∈ gtbl := gt_t (k := 512) rfl rfl
set_option maxRecDepth 20000 in
theorem tw_513 : (Jvm.Cond.code ({ cls := "RealDeskModel", name := "root", desc := "(I)I" } : Jvm.MethodName) prog_3_method_26_code (11 : Nat) (Option.some Jvm.ClassFile.FieldType.int)) ∈ gtbl := gt_t (k := 513) rfl rfl
set_option maxRecDepth 20000 in
theorem tw_514 : (Jvm.Cond.constantLong "RealDeskModel" (167 : Nat) (1152921504606846976 : Int64)) ∈ gtbl := gt_t (k := 514) rfl rfl
set_option maxRecDepth 20000 in
theorem tw_515 : (Jvm.Cond.methodLink "RealDeskModel" (174 : Nat) ({ cls := "RealDeskModel", name := "neighbour", desc := "(IZ)I" } : Jvm.MethodName)) ∈ gtbl := gt_t (k := 515) rfl rfl
set_option maxRecDepth 20000 in
theorem tw_517 : (Jvm.Cond.instanceMethod ({ cls := "RealDeskModel", name := "neighbour", desc := "(IZ)I" } : Jvm.MethodName)) ∈ gtbl := gt_t (k := 517) rfl rfl
set_option maxRecDepth 20000 in
theorem tw_518 : (Jvm.Cond.code ({ cls := "RealDeskModel", name := "neighbour", desc := "(IZ)I" } : Jvm.MethodName) prog_3_method_28_code (9 : Nat) (Option.some Jvm.ClassFile.FieldType.int)) ∈ gtbl := gt_t (k := 518) rfl rfl
set_option maxRecDepth 20000 in
theorem tw_519 : (Jvm.Cond.constantLong "RealDeskModel" (169 : Nat) (9218868437227405311 : Int64)) ∈ gtbl := gt_t (k := 519) rfl rfl
set_option maxRecDepth 20000 in
theorem tw_520 : (Jvm.Cond.methodLink "RealDeskModel" (178 : Nat) ({ cls := "RealDeskModel", name := "wholeOf", desc := "(II)I" } : Jvm.MethodName)) ∈ gtbl := gt_t (k := 520) rfl rfl
set_option maxRecDepth 20000 in
theorem tw_522 : (Jvm.Cond.instanceMethod ({ cls := "RealDeskModel", name := "wholeOf", desc := "(II)I" } : Jvm.MethodName)) ∈ gtbl := gt_t (k := 522) rfl rfl
set_option maxRecDepth 20000 in
theorem tw_523 : (Jvm.Cond.code ({ cls := "RealDeskModel", name := "wholeOf", desc := "(II)I" } : Jvm.MethodName) prog_3_method_27_code (10 : Nat) (Option.some Jvm.ClassFile.FieldType.int)) ∈ gtbl := gt_t (k := 523) rfl rfl
set_option maxRecDepth 20000 in
theorem tw_524 : (Jvm.Cond.methodLink "RealDeskLaw" (73 : Nat) ({ cls := "RealDeskModel", name := "power", desc := "(III)I" } : Jvm.MethodName)) ∈ gtbl := gt_t (k := 524) rfl rfl
set_option maxRecDepth 20000 in
theorem tw_525 : (Jvm.Cond.instanceMethod ({ cls := "RealDeskModel", name := "power", desc := "(III)I" } : Jvm.MethodName)) ∈ gtbl := gt_t (k := 525) rfl rfl
set_option maxRecDepth 20000 in
theorem tw_526 : (Jvm.Cond.selects "RealDeskModel" ({ cls := "RealDeskModel", name := "power", desc := "(III)I" } : Jvm.MethodName) ({ cls := "RealDeskModel", name := "power", desc := "(III)I" } : Jvm.MethodName)) ∈ gtbl := gt_t (k := 526) rfl rfl
set_option maxRecDepth 20000 in
theorem tw_527 : (Jvm.Cond.code ({ cls := "RealDeskModel", name := "power", desc := "(III)I" } : Jvm.MethodName) prog_3_method_33_code (4 : Nat) (Option.some Jvm.ClassFile.FieldType.int)) ∈ gtbl := gt_t (k := 527) rfl rfl
set_option maxRecDepth 20000 in
theorem tw_528 : (Jvm.Cond.methodLink "RealDeskModel" (188 : Nat) ({ cls := "RealDeskModel", name := "raised", desc := "(II)I" } : Jvm.MethodName)) ∈ gtbl := gt_t (k := 528) rfl rfl
set_option maxRecDepth 20000 in
theorem tw_530 : (Jvm.Cond.instanceMethod ({ cls := "RealDeskModel", name := "raised", desc := "(II)I" } : Jvm.MethodName)) ∈ gtbl := gt_t (k := 530) rfl rfl
set_option maxRecDepth 20000 in
theorem tw_531 : (Jvm.Cond.code ({ cls := "RealDeskModel", name := "raised", desc := "(II)I" } : Jvm.MethodName) prog_3_method_32_code (6 : Nat) (Option.some Jvm.ClassFile.FieldType.int)) ∈ gtbl := gt_t (k := 531) rfl rfl
set_option maxRecDepth 20000 in
theorem tw_532 : (Jvm.Cond.methodLink "RealDeskModel" (184 : Nat) ({ cls := "RealDeskModel", name := "multiply", desc := "(ZJI)I" } : Jvm.MethodName)) ∈ gtbl := gt_t (k := 532) rfl rfl
set_option maxRecDepth 20000 in
theorem tw_534 : (Jvm.Cond.instanceMethod ({ cls := "RealDeskModel", name := "multiply", desc := "(ZJI)I" } : Jvm.MethodName)) ∈ gtbl := gt_t (k := 534) rfl rfl
set_option maxRecDepth 20000 in
theorem tw_535 : (Jvm.Cond.code ({ cls := "RealDeskModel", name := "multiply", desc := "(ZJI)I" } : Jvm.MethodName) prog_3_method_31_code (6 : Nat) (Option.some Jvm.ClassFile.FieldType.int)) ∈ gtbl := gt_t (k := 535) rfl rfl
set_option maxRecDepth 20000 in
theorem tw_536 : (Jvm.Cond.methodLink "RealDeskLaw" (77 : Nat) ({ cls := "RealDeskModel", name := "order", desc := "(II)I" } : Jvm.MethodName)) ∈ gtbl := gt_t (k := 536) rfl rfl
set_option maxRecDepth 20000 in
theorem tw_537 : (Jvm.Cond.instanceMethod ({ cls := "RealDeskModel", name := "order", desc := "(II)I" } : Jvm.MethodName)) ∈ gtbl := gt_t (k := 537) rfl rfl
set_option maxRecDepth 20000 in
theorem tw_538 : (Jvm.Cond.selects "RealDeskModel" ({ cls := "RealDeskModel", name := "order", desc := "(II)I" } : Jvm.MethodName) ({ cls := "RealDeskModel", name := "order", desc := "(II)I" } : Jvm.MethodName)) ∈ gtbl := gt_t (k := 538) rfl rfl
set_option maxRecDepth 20000 in
theorem tw_539 : (Jvm.Cond.code ({ cls := "RealDeskModel", name := "order", desc := "(II)I" } : Jvm.MethodName) prog_3_method_34_code (3 : Nat) (Option.some Jvm.ClassFile.FieldType.int)) ∈ gtbl := gt_t (k := 539) rfl rfl
set_option maxRecDepth 20000 in
theorem tw_540 : (Jvm.Cond.methodLink "RealDeskLaw" (81 : Nat) ({ cls := "RealDeskModel", name := "digits", desc := "(I)J" } : Jvm.MethodName)) ∈ gtbl := gt_t (k := 540) rfl rfl
set_option maxRecDepth 20000 in
theorem tw_541 : (Jvm.Cond.instanceMethod ({ cls := "RealDeskModel", name := "digits", desc := "(I)J" } : Jvm.MethodName)) ∈ gtbl := gt_t (k := 541) rfl rfl
set_option maxRecDepth 20000 in
theorem tw_542 : (Jvm.Cond.selects "RealDeskModel" ({ cls := "RealDeskModel", name := "digits", desc := "(I)J" } : Jvm.MethodName) ({ cls := "RealDeskModel", name := "digits", desc := "(I)J" } : Jvm.MethodName)) ∈ gtbl := gt_t (k := 542) rfl rfl
set_option maxRecDepth 20000 in
theorem tw_543 : (Jvm.Cond.code ({ cls := "RealDeskModel", name := "digits", desc := "(I)J" } : Jvm.MethodName) prog_3_method_35_code (2 : Nat) (Option.some Jvm.ClassFile.FieldType.long)) ∈ gtbl := gt_t (k := 543) rfl rfl
set_option maxRecDepth 20000 in
theorem tw_544 : (Jvm.Cond.methodLink "RealDeskLaw" (84 : Nat) ({ cls := "RealDeskModel", name := "exponent", desc := "(I)I" } : Jvm.MethodName)) ∈ gtbl := gt_t (k := 544) rfl rfl
set_option maxRecDepth 20000 in
theorem tw_545 : (Jvm.Cond.instanceMethod ({ cls := "RealDeskModel", name := "exponent", desc := "(I)I" } : Jvm.MethodName)) ∈ gtbl := gt_t (k := 545) rfl rfl
set_option maxRecDepth 20000 in
theorem tw_546 : (Jvm.Cond.selects "RealDeskModel" ({ cls := "RealDeskModel", name := "exponent", desc := "(I)I" } : Jvm.MethodName) ({ cls := "RealDeskModel", name := "exponent", desc := "(I)I" } : Jvm.MethodName)) ∈ gtbl := gt_t (k := 546) rfl rfl
set_option maxRecDepth 20000 in
theorem tw_547 : (Jvm.Cond.code ({ cls := "RealDeskModel", name := "exponent", desc := "(I)I" } : Jvm.MethodName) prog_3_method_36_code (2 : Nat) (Option.some Jvm.ClassFile.FieldType.int)) ∈ gtbl := gt_t (k := 547) rfl rfl
set_option maxRecDepth 20000 in
theorem tw_548 : (Jvm.Cond.methodLink "RealDeskLaw" (88 : Nat) ({ cls := "RealDeskModel", name := "value", desc := "(I)D" } : Jvm.MethodName)) ∈ gtbl := gt_t (k := 548) rfl rfl
set_option maxRecDepth 20000 in
theorem tw_549 : (Jvm.Cond.instanceMethod ({ cls := "RealDeskModel", name := "value", desc := "(I)D" } : Jvm.MethodName)) ∈ gtbl := gt_t (k := 549) rfl rfl
set_option maxRecDepth 20000 in
theorem tw_550 : (Jvm.Cond.selects "RealDeskModel" ({ cls := "RealDeskModel", name := "value", desc := "(I)D" } : Jvm.MethodName) ({ cls := "RealDeskModel", name := "value", desc := "(I)D" } : Jvm.MethodName)) ∈ gtbl := gt_t (k := 550) rfl rfl
set_option maxRecDepth 20000 in
theorem tw_551 : (Jvm.Cond.code ({ cls := "RealDeskModel", name := "value", desc := "(I)D" } : Jvm.MethodName) prog_3_method_37_code (5 : Nat) (Option.some Jvm.ClassFile.FieldType.double)) ∈ gtbl := gt_t (k := 551) rfl rfl
set_option maxRecDepth 20000 in
theorem tw_552 : (Jvm.Cond.constantDouble "RealDeskModel" (191 : Nat) (4611686018427387904 : UInt64)) ∈ gtbl := gt_t (k := 552) rfl rfl
set_option maxRecDepth 20000 in
theorem tw_553 : (Jvm.Cond.constantDouble "RealDeskModel" (193 : Nat) (4602678819172646912 : UInt64)) ∈ gtbl := gt_t (k := 553) rfl rfl
set_option maxRecDepth 20000 in
theorem tw_554 : (Jvm.Cond.methodLink "RealDeskLaw" (91 : Nat) ({ cls := "RealDeskModel", name := "whole", desc := "(I)J" } : Jvm.MethodName)) ∈ gtbl := gt_t (k := 554) rfl rfl
set_option maxRecDepth 20000 in
theorem tw_555 : (Jvm.Cond.instanceMethod ({ cls := "RealDeskModel", name := "whole", desc := "(I)J" } : Jvm.MethodName)) ∈ gtbl := gt_t (k := 555) rfl rfl
set_option maxRecDepth 20000 in
theorem tw_556 : (Jvm.Cond.selects "RealDeskModel" ({ cls := "RealDeskModel", name := "whole", desc := "(I)J" } : Jvm.MethodName) ({ cls := "RealDeskModel", name := "whole", desc := "(I)J" } : Jvm.MethodName)) ∈ gtbl := gt_t (k := 556) rfl rfl
set_option maxRecDepth 20000 in
theorem tw_557 : (Jvm.Cond.code ({ cls := "RealDeskModel", name := "whole", desc := "(I)J" } : Jvm.MethodName) prog_3_method_38_code (6 : Nat) (Option.some Jvm.ClassFile.FieldType.long)) ∈ gtbl := gt_t (k := 557) rfl rfl
set_option maxRecDepth 20000 in
theorem tw_558 : (Jvm.Cond.constantLong "RealDeskModel" (195 : Nat) (4611686018427387904 : Int64)) ∈ gtbl := gt_t (k := 558) rfl rfl
set_option maxRecDepth 20000 in
theorem tw_559 : (Jvm.Cond.methodLink "RealDeskModel" (197 : Nat) ({ cls := "RealDeskModel", name := "refuse", desc := "(I)I" } : Jvm.MethodName)) ∈ gtbl := gt_t (k := 559) rfl rfl
set_option maxRecDepth 20000 in
theorem tw_561 : (Jvm.Cond.instanceMethod ({ cls := "RealDeskModel", name := "refuse", desc := "(I)I" } : Jvm.MethodName)) ∈ gtbl := gt_t (k := 561) rfl rfl
set_option maxRecDepth 20000 in
theorem tw_562 : (Jvm.Cond.code ({ cls := "RealDeskModel", name := "refuse", desc := "(I)I" } : Jvm.MethodName) prog_3_method_3_code (2 : Nat) (Option.some Jvm.ClassFile.FieldType.int)) ∈ gtbl := gt_t (k := 562) rfl rfl
set_option maxRecDepth 20000 in
theorem tw_563 : (Jvm.Cond.constantLong "RealDeskLaw" (51 : Nat) (4294967295 : Int64)) ∈ gtbl := gt_t (k := 563) rfl rfl
set_option maxRecDepth 20000 in
theorem tw_564 : (Jvm.Cond.arrayClass Jvm.ClassFile.FieldType.double) ∈ gtbl := gt_t (k := 564) rfl rfl
theorem ts_0 : (Cond.selects "java/lang/Throwable" ({ cls := "java/lang/Throwable", name := "fillInStackTrace", desc := "(I)Ljava/lang/Throwable;" } : Jvm.MethodName) ({ cls := "java/lang/Throwable", name := "fillInStackTrace", desc := "(I)Ljava/lang/Throwable;" } : Jvm.MethodName)) ∈ gtbl := gt_mem (List.mem_append_left _ (List.mem_of_getElem? (i := 0) rfl)) rfl
theorem ts_1 : (Cond.selects "RealDesk" ({ cls := "RealDesk", name := "keep", desc := "(IJ)I" } : Jvm.MethodName) ({ cls := "RealDesk", name := "keep", desc := "(IJ)I" } : Jvm.MethodName)) ∈ gtbl := gt_mem (List.mem_append_left _ (List.mem_of_getElem? (i := 1) rfl)) rfl
theorem ts_2 : (Cond.selects "RealDesk" ({ cls := "RealDesk", name := "combineRanks", desc := "(IIJJ)I" } : Jvm.MethodName) ({ cls := "RealDesk", name := "combineRanks", desc := "(IIJJ)I" } : Jvm.MethodName)) ∈ gtbl := gt_mem (List.mem_append_left _ (List.mem_of_getElem? (i := 2) rfl)) rfl
theorem ts_3 : (Cond.selects "RealDesk" ({ cls := "RealDesk", name := "changeRank", desc := "(IIJ)I" } : Jvm.MethodName) ({ cls := "RealDesk", name := "changeRank", desc := "(IIJ)I" } : Jvm.MethodName)) ∈ gtbl := gt_mem (List.mem_append_left _ (List.mem_of_getElem? (i := 3) rfl)) rfl
theorem ts_4 : (Cond.selects "RealDeskModel" ({ cls := "RealDeskModel", name := "nearest", desc := "(ZIZ)I" } : Jvm.MethodName) ({ cls := "RealDeskModel", name := "nearest", desc := "(ZIZ)I" } : Jvm.MethodName)) ∈ gtbl := gt_mem (List.mem_append_left _ (List.mem_of_getElem? (i := 4) rfl)) rfl
theorem ts_5 : (Cond.selects "RealDeskModel" ({ cls := "RealDeskModel", name := "settle", desc := "()I" } : Jvm.MethodName) ({ cls := "RealDeskModel", name := "settle", desc := "()I" } : Jvm.MethodName)) ∈ gtbl := gt_mem (List.mem_append_left _ (List.mem_of_getElem? (i := 5) rfl)) rfl
theorem ts_6 : (Cond.selects "RealDeskModel" ({ cls := "RealDeskModel", name := "keep", desc := "(II)I" } : Jvm.MethodName) ({ cls := "RealDeskModel", name := "keep", desc := "(II)I" } : Jvm.MethodName)) ∈ gtbl := gt_mem (List.mem_append_left _ (List.mem_of_getElem? (i := 6) rfl)) rfl
theorem ts_7 : (Cond.selects "RealDeskModel" ({ cls := "RealDeskModel", name := "combined", desc := "(III)I" } : Jvm.MethodName) ({ cls := "RealDeskModel", name := "combined", desc := "(III)I" } : Jvm.MethodName)) ∈ gtbl := gt_mem (List.mem_append_left _ (List.mem_of_getElem? (i := 7) rfl)) rfl
theorem ts_8 : (Cond.selects "RealDeskModel" ({ cls := "RealDeskModel", name := "sum", desc := "(IIZ)I" } : Jvm.MethodName) ({ cls := "RealDeskModel", name := "sum", desc := "(IIZ)I" } : Jvm.MethodName)) ∈ gtbl := gt_mem (List.mem_append_left _ (List.mem_of_getElem? (i := 8) rfl)) rfl
theorem ts_9 : (Cond.selects "RealDeskModel" ({ cls := "RealDeskModel", name := "exactSum", desc := "(IIZ)Z" } : Jvm.MethodName) ({ cls := "RealDeskModel", name := "exactSum", desc := "(IIZ)Z" } : Jvm.MethodName)) ∈ gtbl := gt_mem (List.mem_append_left _ (List.mem_of_getElem? (i := 9) rfl)) rfl
theorem ts_10 : (Cond.selects "RealDeskModel" ({ cls := "RealDeskModel", name := "swap", desc := "()V" } : Jvm.MethodName) ({ cls := "RealDeskModel", name := "swap", desc := "()V" } : Jvm.MethodName)) ∈ gtbl := gt_mem (List.mem_append_left _ (List.mem_of_getElem? (i := 10) rfl)) rfl
theorem ts_11 : (Cond.selects "RealDeskModel" ({ cls := "RealDeskModel", name := "product", desc := "(II)I" } : Jvm.MethodName) ({ cls := "RealDeskModel", name := "product", desc := "(II)I" } : Jvm.MethodName)) ∈ gtbl := gt_mem (List.mem_append_left _ (List.mem_of_getElem? (i := 11) rfl)) rfl
theorem ts_12 : (Cond.selects "RealDeskModel" ({ cls := "RealDeskModel", name := "quotient", desc := "(ZJIJI)I" } : Jvm.MethodName) ({ cls := "RealDeskModel", name := "quotient", desc := "(ZJIJI)I" } : Jvm.MethodName)) ∈ gtbl := gt_mem (List.mem_append_left _ (List.mem_of_getElem? (i := 12) rfl)) rfl
theorem ts_13 : (Cond.selects "RealDeskModel" ({ cls := "RealDeskModel", name := "rest", desc := "(II)I" } : Jvm.MethodName) ({ cls := "RealDeskModel", name := "rest", desc := "(II)I" } : Jvm.MethodName)) ∈ gtbl := gt_mem (List.mem_append_left _ (List.mem_of_getElem? (i := 13) rfl)) rfl
theorem ts_14 : (Cond.selects "RealDeskModel" ({ cls := "RealDeskModel", name := "take", desc := "(I)V" } : Jvm.MethodName) ({ cls := "RealDeskModel", name := "take", desc := "(I)V" } : Jvm.MethodName)) ∈ gtbl := gt_mem (List.mem_append_left _ (List.mem_of_getElem? (i := 14) rfl)) rfl
theorem ts_15 : (Cond.selects "RealDeskModel" ({ cls := "RealDeskModel", name := "compareNumbers", desc := "(II)I" } : Jvm.MethodName) ({ cls := "RealDeskModel", name := "compareNumbers", desc := "(II)I" } : Jvm.MethodName)) ∈ gtbl := gt_mem (List.mem_append_left _ (List.mem_of_getElem? (i := 15) rfl)) rfl
theorem ts_16 : (Cond.selects "RealDeskModel" ({ cls := "RealDeskModel", name := "sizes", desc := "(II)I" } : Jvm.MethodName) ({ cls := "RealDeskModel", name := "sizes", desc := "(II)I" } : Jvm.MethodName)) ∈ gtbl := gt_mem (List.mem_append_left _ (List.mem_of_getElem? (i := 16) rfl)) rfl
theorem ts_17 : (Cond.selects "RealDeskModel" ({ cls := "RealDeskModel", name := "pick", desc := "(I)I" } : Jvm.MethodName) ({ cls := "RealDeskModel", name := "pick", desc := "(I)I" } : Jvm.MethodName)) ∈ gtbl := gt_mem (List.mem_append_left _ (List.mem_of_getElem? (i := 17) rfl)) rfl
theorem ts_18 : (Cond.selects "RealDeskModel" ({ cls := "RealDeskModel", name := "sumError", desc := "(II)I" } : Jvm.MethodName) ({ cls := "RealDeskModel", name := "sumError", desc := "(II)I" } : Jvm.MethodName)) ∈ gtbl := gt_mem (List.mem_append_left _ (List.mem_of_getElem? (i := 18) rfl)) rfl
theorem ts_19 : (Cond.selects "RealDeskModel" ({ cls := "RealDeskModel", name := "lower", desc := "(I)V" } : Jvm.MethodName) ({ cls := "RealDeskModel", name := "lower", desc := "(I)V" } : Jvm.MethodName)) ∈ gtbl := gt_mem (List.mem_append_left _ (List.mem_of_getElem? (i := 19) rfl)) rfl
theorem ts_20 : (Cond.selects "RealDeskModel" ({ cls := "RealDeskModel", name := "errorOf", desc := "(ZI)I" } : Jvm.MethodName) ({ cls := "RealDeskModel", name := "errorOf", desc := "(ZI)I" } : Jvm.MethodName)) ∈ gtbl := gt_mem (List.mem_append_left _ (List.mem_of_getElem? (i := 20) rfl)) rfl
theorem ts_21 : (Cond.selects "RealDeskModel" ({ cls := "RealDeskModel", name := "productError", desc := "(II)I" } : Jvm.MethodName) ({ cls := "RealDeskModel", name := "productError", desc := "(II)I" } : Jvm.MethodName)) ∈ gtbl := gt_mem (List.mem_append_left _ (List.mem_of_getElem? (i := 21) rfl)) rfl
theorem ts_22 : (Cond.selects "RealDeskModel" ({ cls := "RealDeskModel", name := "changed", desc := "(II)I" } : Jvm.MethodName) ({ cls := "RealDeskModel", name := "changed", desc := "(II)I" } : Jvm.MethodName)) ∈ gtbl := gt_mem (List.mem_append_left _ (List.mem_of_getElem? (i := 22) rfl)) rfl
theorem ts_23 : (Cond.selects "RealDeskModel" ({ cls := "RealDeskModel", name := "root", desc := "(I)I" } : Jvm.MethodName) ({ cls := "RealDeskModel", name := "root", desc := "(I)I" } : Jvm.MethodName)) ∈ gtbl := gt_mem (List.mem_append_left _ (List.mem_of_getElem? (i := 23) rfl)) rfl
theorem ts_24 : (Cond.selects "RealDeskModel" ({ cls := "RealDeskModel", name := "neighbour", desc := "(IZ)I" } : Jvm.MethodName) ({ cls := "RealDeskModel", name := "neighbour", desc := "(IZ)I" } : Jvm.MethodName)) ∈ gtbl := gt_mem (List.mem_append_left _ (List.mem_of_getElem? (i := 24) rfl)) rfl
theorem ts_25 : (Cond.selects "RealDeskModel" ({ cls := "RealDeskModel", name := "wholeOf", desc := "(II)I" } : Jvm.MethodName) ({ cls := "RealDeskModel", name := "wholeOf", desc := "(II)I" } : Jvm.MethodName)) ∈ gtbl := gt_mem (List.mem_append_left _ (List.mem_of_getElem? (i := 25) rfl)) rfl
theorem ts_26 : (Cond.selects "RealDeskModel" ({ cls := "RealDeskModel", name := "raised", desc := "(II)I" } : Jvm.MethodName) ({ cls := "RealDeskModel", name := "raised", desc := "(II)I" } : Jvm.MethodName)) ∈ gtbl := gt_mem (List.mem_append_left _ (List.mem_of_getElem? (i := 26) rfl)) rfl
theorem ts_27 : (Cond.selects "RealDeskModel" ({ cls := "RealDeskModel", name := "multiply", desc := "(ZJI)I" } : Jvm.MethodName) ({ cls := "RealDeskModel", name := "multiply", desc := "(ZJI)I" } : Jvm.MethodName)) ∈ gtbl := gt_mem (List.mem_append_left _ (List.mem_of_getElem? (i := 27) rfl)) rfl
theorem ts_28 : (Cond.selects "RealDeskModel" ({ cls := "RealDeskModel", name := "refuse", desc := "(I)I" } : Jvm.MethodName) ({ cls := "RealDeskModel", name := "refuse", desc := "(I)I" } : Jvm.MethodName)) ∈ gtbl := gt_mem (List.mem_append_left _ (List.mem_of_getElem? (i := 28) rfl)) rfl
