/-- the tables' words that every method may want: those that keep -/
def zT : List Cond := lw_tbl.filter goodWord
theorem zT_in : ∀ w ∈ zT, w ∈ lw_tbl := fun _ h => (List.mem_filter.mp h).1
theorem zT_good : ∀ w ∈ zT, goodWord w = true := fun _ h => (List.mem_filter.mp h).2
theorem zj_in0 {i : Nat} {w : Cond} (h : (k2_sels lw_privs)[i]? = some w) (g : goodWord w = true) : w ∈ zT := List.mem_filter.mpr ⟨List.mem_append_left _ (List.mem_of_getElem? h), g⟩
theorem zj_in1 {i : Nat} {w : Cond} (h : tables_1_1[i]? = some w) (g : goodWord w = true) : w ∈ zT := List.mem_filter.mpr ⟨List.mem_append_right _ (show w ∈ tables_1 from List.mem_append_left _ (List.mem_of_getElem? h)), g⟩
theorem zj_in2 {i : Nat} {w : Cond} (h : tables_1_2[i]? = some w) (g : goodWord w = true) : w ∈ zT := List.mem_filter.mpr ⟨List.mem_append_right _ (show w ∈ tables_1 from List.mem_append_right _ (List.mem_append_left _ (List.mem_of_getElem? h))), g⟩
theorem zj_in3 {i : Nat} {w : Cond} (h : tables_1_3[i]? = some w) (g : goodWord w = true) : w ∈ zT := List.mem_filter.mpr ⟨List.mem_append_right _ (show w ∈ tables_1 from List.mem_append_right _ (List.mem_append_right _ (List.mem_append_left _ (List.mem_of_getElem? h)))), g⟩
theorem zj_in4 {i : Nat} {w : Cond} (h : tables_1_4[i]? = some w) (g : goodWord w = true) : w ∈ zT := List.mem_filter.mpr ⟨List.mem_append_right _ (show w ∈ tables_1 from List.mem_append_right _ (List.mem_append_right _ (List.mem_append_right _ (List.mem_append_left _ (List.mem_of_getElem? h))))), g⟩
theorem zj_in5 {i : Nat} {w : Cond} (h : tables_1_5[i]? = some w) (g : goodWord w = true) : w ∈ zT := List.mem_filter.mpr ⟨List.mem_append_right _ (show w ∈ tables_1 from List.mem_append_right _ (List.mem_append_right _ (List.mem_append_right _ (List.mem_append_right _ (List.mem_append_left _ (List.mem_of_getElem? h)))))), g⟩
theorem zj_in6 {i : Nat} {w : Cond} (h : tables_1_6[i]? = some w) (g : goodWord w = true) : w ∈ zT := List.mem_filter.mpr ⟨List.mem_append_right _ (show w ∈ tables_1 from List.mem_append_right _ (List.mem_append_right _ (List.mem_append_right _ (List.mem_append_right _ (List.mem_append_right _ (List.mem_append_left _ (List.mem_of_getElem? h))))))), g⟩
theorem zj_in7 {i : Nat} {w : Cond} (h : tables_1_7[i]? = some w) (g : goodWord w = true) : w ∈ zT := List.mem_filter.mpr ⟨List.mem_append_right _ (show w ∈ tables_1 from List.mem_append_right _ (List.mem_append_right _ (List.mem_append_right _ (List.mem_append_right _ (List.mem_append_right _ (List.mem_append_right _ (List.mem_append_left _ (List.mem_of_getElem? h)))))))), g⟩
theorem zj_in8 {i : Nat} {w : Cond} (h : tables_1_8[i]? = some w) (g : goodWord w = true) : w ∈ zT := List.mem_filter.mpr ⟨List.mem_append_right _ (show w ∈ tables_1 from List.mem_append_right _ (List.mem_append_right _ (List.mem_append_right _ (List.mem_append_right _ (List.mem_append_right _ (List.mem_append_right _ (List.mem_append_right _ (List.mem_append_left _ (List.mem_of_getElem? h))))))))), g⟩
theorem zj_in9 {i : Nat} {w : Cond} (h : tables_1_9[i]? = some w) (g : goodWord w = true) : w ∈ zT := List.mem_filter.mpr ⟨List.mem_append_right _ (show w ∈ tables_1 from List.mem_append_right _ (List.mem_append_right _ (List.mem_append_right _ (List.mem_append_right _ (List.mem_append_right _ (List.mem_append_right _ (List.mem_append_right _ (List.mem_append_right _ (List.mem_of_getElem? h))))))))), g⟩
theorem zw_1_0 : (Jvm.Cond.initialized "RoadToPortLaw") ∈ zT := zj_in1 (i := 0) rfl rfl
theorem zw_1_1 : (Jvm.Cond.initialized "RoadToPort") ∈ zT := zj_in1 (i := 1) rfl rfl
theorem zw_1_2 : (Jvm.Cond.initialized "RoadToPort$Reader") ∈ zT := zj_in1 (i := 2) rfl rfl
theorem zw_1_3 : (Jvm.Cond.initialized "java/lang/String") ∈ zT := zj_in1 (i := 3) rfl rfl
theorem zw_1_4 : (Jvm.Cond.initialized "java/lang/StringLatin1") ∈ zT := zj_in1 (i := 4) rfl rfl
theorem zw_1_5 : (Jvm.Cond.initialized "jdk/internal/util/Preconditions") ∈ zT := zj_in1 (i := 5) rfl rfl
theorem zw_1_6 : (Jvm.Cond.initialized "java/lang/StringUTF16") ∈ zT := zj_in1 (i := 6) rfl rfl
theorem zw_1_7 : (Jvm.Cond.initialized "RoadToPort$Land") ∈ zT := zj_in1 (i := 7) rfl rfl
theorem zw_1_8 : (Jvm.Cond.initialized "RoadToPort$Folk") ∈ zT := zj_in1 (i := 8) rfl rfl
theorem zw_1_9 : (Jvm.Cond.initialized "RoadToPort$Phrase") ∈ zT := zj_in1 (i := 9) rfl rfl
theorem zw_1_10 : (Jvm.Cond.initialized "RoadToPort$History") ∈ zT := zj_in1 (i := 10) rfl rfl
theorem zw_1_11 : (Jvm.Cond.initialized "RoadToPort$Ledger") ∈ zT := zj_in1 (i := 11) rfl rfl
theorem zw_1_12 : (Jvm.Cond.initialized "RoadToPort$Planner") ∈ zT := zj_in1 (i := 12) rfl rfl
theorem zw_1_13 : (Jvm.Cond.initialized "java/util/Arrays") ∈ zT := zj_in1 (i := 13) rfl rfl
theorem zw_1_14 : (Jvm.Cond.initialized "RoadToPort$Sender") ∈ zT := zj_in1 (i := 14) rfl rfl
theorem zw_1_15 : (Jvm.Cond.initialized "RoadToPort$Cutter") ∈ zT := zj_in1 (i := 15) rfl rfl
theorem zw_1_16 : (Jvm.Cond.initialized "RoadToPort$Scribe") ∈ zT := zj_in1 (i := 16) rfl rfl
theorem zw_1_17 : (Jvm.Cond.initialized "RoadToPort$Tracker") ∈ zT := zj_in1 (i := 17) rfl rfl
theorem zw_1_18 : (Jvm.Cond.initialized "RoadToPortModel") ∈ zT := zj_in1 (i := 18) rfl rfl
theorem zw_1_19 : (Jvm.Cond.initialized "java/lang/Throwable") ∈ zT := zj_in1 (i := 19) rfl rfl
theorem zw_1_20 : (Jvm.Cond.initialized "java/lang/Exception") ∈ zT := zj_in1 (i := 20) rfl rfl
theorem zw_1_21 : (Jvm.Cond.initialized "java/lang/RuntimeException") ∈ zT := zj_in1 (i := 21) rfl rfl
theorem zw_1_22 : (Jvm.Cond.initialized "java/util/NoSuchElementException") ∈ zT := zj_in1 (i := 22) rfl rfl
theorem zw_1_23 : (Jvm.Cond.initialized "java/lang/System") ∈ zT := zj_in1 (i := 23) rfl rfl
theorem zw_1_24 : (Jvm.Cond.initialized "java/lang/Math") ∈ zT := zj_in1 (i := 24) rfl rfl
theorem zw_1_25 : (Jvm.Cond.initialized "java/lang/Integer") ∈ zT := zj_in1 (i := 25) rfl rfl
theorem zw_1_26 : (Jvm.Cond.classLink "RoadToPortLaw" (8 : Nat) "RoadToPort") ∈ zT := zj_in1 (i := 26) rfl rfl
theorem zw_1_27 : (Jvm.Cond.instantiable "RoadToPort" (19 : Nat)) ∈ zT := zj_in1 (i := 27) rfl rfl
theorem zw_1_28 : (Jvm.Cond.methodLink "RoadToPortLaw" (23 : Nat) ({ cls := "RoadToPort", name := "<init>", desc := "()V" } : Jvm.MethodName)) ∈ zT := zj_in1 (i := 28) rfl rfl
theorem zw_1_29 : (Jvm.Cond.instanceMethod ({ cls := "RoadToPort", name := "<init>", desc := "()V" } : Jvm.MethodName)) ∈ zT := zj_in1 (i := 29) rfl rfl
theorem zw_1_30 : (Jvm.Cond.code ({ cls := "RoadToPort", name := "<init>", desc := "()V" } : Jvm.MethodName) prog_1_method_1_code (1 : Nat) (Option.none : Option Jvm.ClassFile.FieldType)) ∈ zT := zj_in1 (i := 30) rfl rfl
theorem zw_1_31 : (Jvm.Cond.methodLink "RoadToPort" (1 : Nat) ({ cls := "java/lang/Object", name := "<init>", desc := "()V" } : Jvm.MethodName)) ∈ zT := zj_in1 (i := 31) rfl rfl
theorem zw_1_32 : (Jvm.Cond.instanceMethod ({ cls := "java/lang/Object", name := "<init>", desc := "()V" } : Jvm.MethodName)) ∈ zT := zj_in1 (i := 32) rfl rfl
theorem zw_1_33 : (Jvm.Cond.code ({ cls := "java/lang/Object", name := "<init>", desc := "()V" } : Jvm.MethodName) object_method_1_code (1 : Nat) (Option.none : Option Jvm.ClassFile.FieldType)) ∈ zT := zj_in1 (i := 33) rfl rfl
theorem zw_1_34 : (Jvm.Cond.classLink "RoadToPort" (7 : Nat) "RoadToPort$Reader") ∈ zT := zj_in1 (i := 34) rfl rfl
theorem zw_1_35 : (Jvm.Cond.instantiable "RoadToPort$Reader" (13 : Nat)) ∈ zT := zj_in1 (i := 35) rfl rfl
theorem zw_1_36 : (Jvm.Cond.methodLink "RoadToPort" (9 : Nat) ({ cls := "RoadToPort$Reader", name := "<init>", desc := "()V" } : Jvm.MethodName)) ∈ zT := zj_in1 (i := 36) rfl rfl
theorem zw_1_37 : (Jvm.Cond.instanceMethod ({ cls := "RoadToPort$Reader", name := "<init>", desc := "()V" } : Jvm.MethodName)) ∈ zT := zj_in1 (i := 37) rfl rfl
theorem zw_1_38 : (Jvm.Cond.code ({ cls := "RoadToPort$Reader", name := "<init>", desc := "()V" } : Jvm.MethodName) prog_9_method_1_code (4 : Nat) (Option.none : Option Jvm.ClassFile.FieldType)) ∈ zT := zj_in1 (i := 38) rfl rfl
theorem zw_1_39 : (Jvm.Cond.methodLink "RoadToPort$Reader" (3 : Nat) ({ cls := "java/lang/Object", name := "<init>", desc := "()V" } : Jvm.MethodName)) ∈ zT := zj_in1 (i := 39) rfl rfl
theorem zw_1_41 : (Jvm.Cond.methodLink "RoadToPort$Reader" (57 : Nat) ({ cls := "java/lang/String", name := "length", desc := "()I" } : Jvm.MethodName)) ∈ zT := zj_in1 (i := 41) rfl rfl
theorem zw_1_42 : (Jvm.Cond.instanceMethod ({ cls := "java/lang/String", name := "length", desc := "()I" } : Jvm.MethodName)) ∈ zT := zj_in1 (i := 42) rfl rfl
theorem zw_1_43 : (Jvm.Cond.selects "java/lang/String" ({ cls := "java/lang/String", name := "length", desc := "()I" } : Jvm.MethodName) ({ cls := "java/lang/String", name := "length", desc := "()I" } : Jvm.MethodName)) ∈ zT := zj_in1 (i := 43) rfl rfl
theorem zw_1_44 : (Jvm.Cond.code ({ cls := "java/lang/String", name := "length", desc := "()I" } : Jvm.MethodName) prog_22_method_54_code (1 : Nat) (Option.some Jvm.ClassFile.FieldType.int)) ∈ zT := zj_in1 (i := 44) rfl rfl
theorem zw_1_45 : (Jvm.Cond.methodLink "java/lang/String" (335 : Nat) ({ cls := "java/lang/String", name := "coder", desc := "()B" } : Jvm.MethodName)) ∈ zT := zj_in1 (i := 45) rfl rfl
theorem zw_1_46 : (Jvm.Cond.instanceMethod ({ cls := "java/lang/String", name := "coder", desc := "()B" } : Jvm.MethodName)) ∈ zT := zj_in1 (i := 46) rfl rfl
theorem zw_1_47 : (Jvm.Cond.selects "java/lang/String" ({ cls := "java/lang/String", name := "coder", desc := "()B" } : Jvm.MethodName) ({ cls := "java/lang/String", name := "coder", desc := "()B" } : Jvm.MethodName)) ∈ zT := zj_in1 (i := 47) rfl rfl
theorem zw_1_48 : (Jvm.Cond.code ({ cls := "java/lang/String", name := "coder", desc := "()B" } : Jvm.MethodName) prog_22_method_152_code (1 : Nat) (Option.some Jvm.ClassFile.FieldType.byte)) ∈ zT := zj_in1 (i := 48) rfl rfl
theorem zw_1_49 : (Jvm.Cond.fieldLink "java/lang/String" (38 : Nat) "java/lang/String" "COMPACT_STRINGS" "Z") ∈ zT := zj_in1 (i := 49) rfl rfl
theorem zw_1_51 : (Jvm.Cond.methodLink "RoadToPort$Reader" (62 : Nat) ({ cls := "java/lang/String", name := "charAt", desc := "(I)C" } : Jvm.MethodName)) ∈ zT := zj_in1 (i := 51) rfl rfl
theorem zw_1_52 : (Jvm.Cond.instanceMethod ({ cls := "java/lang/String", name := "charAt", desc := "(I)C" } : Jvm.MethodName)) ∈ zT := zj_in1 (i := 52) rfl rfl
theorem zw_1_53 : (Jvm.Cond.selects "java/lang/String" ({ cls := "java/lang/String", name := "charAt", desc := "(I)C" } : Jvm.MethodName) ({ cls := "java/lang/String", name := "charAt", desc := "(I)C" } : Jvm.MethodName)) ∈ zT := zj_in1 (i := 53) rfl rfl
theorem zw_1_54 : (Jvm.Cond.code ({ cls := "java/lang/String", name := "charAt", desc := "(I)C" } : Jvm.MethodName) prog_22_method_56_code (2 : Nat) (Option.some Jvm.ClassFile.FieldType.char)) ∈ zT := zj_in1 (i := 54) rfl rfl
theorem zw_1_55 : (Jvm.Cond.methodLink "java/lang/String" (492 : Nat) ({ cls := "java/lang/String", name := "isLatin1", desc := "()Z" } : Jvm.MethodName)) ∈ zT := zj_in1 (i := 55) rfl rfl
theorem zw_1_56 : (Jvm.Cond.instanceMethod ({ cls := "java/lang/String", name := "isLatin1", desc := "()Z" } : Jvm.MethodName)) ∈ zT := zj_in1 (i := 56) rfl rfl
theorem zw_1_57 : (Jvm.Cond.selects "java/lang/String" ({ cls := "java/lang/String", name := "isLatin1", desc := "()Z" } : Jvm.MethodName) ({ cls := "java/lang/String", name := "isLatin1", desc := "()Z" } : Jvm.MethodName)) ∈ zT := zj_in1 (i := 57) rfl rfl
theorem zw_1_58 : (Jvm.Cond.code ({ cls := "java/lang/String", name := "isLatin1", desc := "()Z" } : Jvm.MethodName) prog_22_method_154_code (1 : Nat) (Option.some Jvm.ClassFile.FieldType.boolean)) ∈ zT := zj_in1 (i := 58) rfl rfl
theorem zw_1_59 : (Jvm.Cond.methodLink "java/lang/String" (495 : Nat) ({ cls := "java/lang/StringLatin1", name := "charAt", desc := "([BI)C" } : Jvm.MethodName)) ∈ zT := zj_in1 (i := 59) rfl rfl
theorem zw_1_60 : (Jvm.Cond.static ({ cls := "java/lang/StringLatin1", name := "charAt", desc := "([BI)C" } : Jvm.MethodName)) ∈ zT := zj_in1 (i := 60) rfl rfl
theorem zw_1_61 : (Jvm.Cond.code ({ cls := "java/lang/StringLatin1", name := "charAt", desc := "([BI)C" } : Jvm.MethodName) prog_23_method_2_code (2 : Nat) (Option.some Jvm.ClassFile.FieldType.char)) ∈ zT := zj_in1 (i := 61) rfl rfl
theorem zw_1_62 : (Jvm.Cond.methodLink "java/lang/StringLatin1" (9 : Nat) ({ cls := "java/lang/String", name := "checkIndex", desc := "(II)V" } : Jvm.MethodName)) ∈ zT := zj_in1 (i := 62) rfl rfl
theorem zw_1_63 : (Jvm.Cond.static ({ cls := "java/lang/String", name := "checkIndex", desc := "(II)V" } : Jvm.MethodName)) ∈ zT := zj_in1 (i := 63) rfl rfl
theorem zw_1_64 : (Jvm.Cond.code ({ cls := "java/lang/String", name := "checkIndex", desc := "(II)V" } : Jvm.MethodName) prog_22_method_155_code (2 : Nat) (Option.none : Option Jvm.ClassFile.FieldType)) ∈ zT := zj_in1 (i := 64) rfl rfl
theorem zw_1_65 : (Jvm.Cond.fieldLink "java/lang/String" (1053 : Nat) "jdk/internal/util/Preconditions" "SIOOBE_FORMATTER" "Ljava/util/function/BiFunction;") ∈ zT := zj_in1 (i := 65) rfl rfl
theorem zw_1_67 : (Jvm.Cond.methodLink "java/lang/String" (1059 : Nat) ({ cls := "jdk/internal/util/Preconditions", name := "checkIndex", desc := "(IILjava/util/function/BiFunction;)I" } : Jvm.MethodName)) ∈ zT := zj_in1 (i := 67) rfl rfl
theorem zw_1_68 : (Jvm.Cond.static ({ cls := "jdk/internal/util/Preconditions", name := "checkIndex", desc := "(IILjava/util/function/BiFunction;)I" } : Jvm.MethodName)) ∈ zT := zj_in1 (i := 68) rfl rfl
theorem zw_1_69 : (Jvm.Cond.code ({ cls := "jdk/internal/util/Preconditions", name := "checkIndex", desc := "(IILjava/util/function/BiFunction;)I" } : Jvm.MethodName) prog_31_method_11_code (3 : Nat) (Option.some Jvm.ClassFile.FieldType.int)) ∈ zT := zj_in1 (i := 69) rfl rfl
theorem zw_1_70 : (Jvm.Cond.methodLink "java/lang/String" (498 : Nat) ({ cls := "java/lang/StringUTF16", name := "charAt", desc := "([BI)C" } : Jvm.MethodName)) ∈ zT := zj_in1 (i := 70) rfl rfl
theorem zw_1_71 : (Jvm.Cond.static ({ cls := "java/lang/StringUTF16", name := "charAt", desc := "([BI)C" } : Jvm.MethodName)) ∈ zT := zj_in1 (i := 71) rfl rfl
theorem zw_1_72 : (Jvm.Cond.code ({ cls := "java/lang/StringUTF16", name := "charAt", desc := "([BI)C" } : Jvm.MethodName) prog_24_method_83_code (2 : Nat) (Option.some Jvm.ClassFile.FieldType.char)) ∈ zT := zj_in1 (i := 72) rfl rfl
theorem zw_1_73 : (Jvm.Cond.methodLink "java/lang/StringUTF16" (67 : Nat) ({ cls := "java/lang/StringUTF16", name := "checkIndex", desc := "(I[B)V" } : Jvm.MethodName)) ∈ zT := zj_in1 (i := 73) rfl rfl
theorem zw_1_74 : (Jvm.Cond.static ({ cls := "java/lang/StringUTF16", name := "checkIndex", desc := "(I[B)V" } : Jvm.MethodName)) ∈ zT := zj_in1 (i := 74) rfl rfl
theorem zw_1_75 : (Jvm.Cond.code ({ cls := "java/lang/StringUTF16", name := "checkIndex", desc := "(I[B)V" } : Jvm.MethodName) prog_24_method_91_code (2 : Nat) (Option.none : Option Jvm.ClassFile.FieldType)) ∈ zT := zj_in1 (i := 75) rfl rfl
theorem zw_1_76 : (Jvm.Cond.methodLink "java/lang/StringUTF16" (48 : Nat) ({ cls := "java/lang/StringUTF16", name := "length", desc := "([B)I" } : Jvm.MethodName)) ∈ zT := zj_in1 (i := 76) rfl rfl
theorem zw_1_77 : (Jvm.Cond.static ({ cls := "java/lang/StringUTF16", name := "length", desc := "([B)I" } : Jvm.MethodName)) ∈ zT := zj_in1 (i := 77) rfl rfl
theorem zw_1_78 : (Jvm.Cond.code ({ cls := "java/lang/StringUTF16", name := "length", desc := "([B)I" } : Jvm.MethodName) prog_24_method_6_code (1 : Nat) (Option.some Jvm.ClassFile.FieldType.int)) ∈ zT := zj_in1 (i := 78) rfl rfl
theorem zw_1_79 : (Jvm.Cond.methodLink "java/lang/StringUTF16" (414 : Nat) ({ cls := "java/lang/String", name := "checkIndex", desc := "(II)V" } : Jvm.MethodName)) ∈ zT := zj_in1 (i := 79) rfl rfl
theorem zw_1_80 : (Jvm.Cond.methodLink "java/lang/StringUTF16" (71 : Nat) ({ cls := "java/lang/StringUTF16", name := "getChar", desc := "([BI)C" } : Jvm.MethodName)) ∈ zT := zj_in1 (i := 80) rfl rfl
theorem zw_1_81 : (Jvm.Cond.static ({ cls := "java/lang/StringUTF16", name := "getChar", desc := "([BI)C" } : Jvm.MethodName)) ∈ zT := zj_in1 (i := 81) rfl rfl
theorem zw_1_82 : (Jvm.Cond.code ({ cls := "java/lang/StringUTF16", name := "getChar", desc := "([BI)C" } : Jvm.MethodName) prog_24_method_5_code (2 : Nat) (Option.some Jvm.ClassFile.FieldType.char)) ∈ zT := zj_in1 (i := 82) rfl rfl
theorem zw_1_83 : (Jvm.Cond.fieldLink "java/lang/StringUTF16" (44 : Nat) "java/lang/StringUTF16" "$assertionsDisabled" "Z") ∈ zT := zj_in1 (i := 83) rfl rfl
theorem zw_1_85 : (Jvm.Cond.fieldLink "java/lang/StringUTF16" (59 : Nat) "java/lang/StringUTF16" "HI_BYTE_SHIFT" "I") ∈ zT := zj_in1 (i := 85) rfl rfl
theorem zw_1_87 : (Jvm.Cond.fieldLink "java/lang/StringUTF16" (63 : Nat) "java/lang/StringUTF16" "LO_BYTE_SHIFT" "I") ∈ zT := zj_in1 (i := 87) rfl rfl
theorem zw_1_89 : (Jvm.Cond.constantLong "RoadToPort$Reader" (66 : Nat) (32 : Int64)) ∈ zT := zj_in1 (i := 89) rfl rfl
theorem zw_1_90 : (Jvm.Cond.fieldLink "RoadToPort$Reader" (11 : Nat) "RoadToPort$Reader" "tape" "[B") ∈ zT := zj_in1 (i := 90) rfl rfl
theorem zw_1_91 : (Jvm.Cond.fieldLink "RoadToPort$Tracker" (31 : Nat) "RoadToPort$Reader" "tape" "[B") ∈ zT := zj_in1 (i := 91) rfl rfl
theorem zw_1_92 : (Jvm.Cond.fieldLink "RoadToPort$Reader" (15 : Nat) "RoadToPort$Reader" "length" "I") ∈ zT := zj_in1 (i := 92) rfl rfl
theorem zw_1_93 : (Jvm.Cond.fieldLink "RoadToPort$Tracker" (26 : Nat) "RoadToPort$Reader" "length" "I") ∈ zT := zj_in1 (i := 93) rfl rfl
theorem zw_1_94 : (Jvm.Cond.fieldLink "RoadToPort" (123 : Nat) "RoadToPort$Reader" "length" "I") ∈ zT := zj_in1 (i := 94) rfl rfl
theorem zw_1_95 : (Jvm.Cond.fieldLink "RoadToPort$Reader" (19 : Nat) "RoadToPort$Reader" "keys" "[J") ∈ zT := zj_in1 (i := 95) rfl rfl
theorem zw_1_96 : (Jvm.Cond.fieldLink "RoadToPort$Reader" (23 : Nat) "RoadToPort$Reader" "limit" "I") ∈ zT := zj_in1 (i := 96) rfl rfl
theorem zw_1_97 : (Jvm.Cond.fieldLink "RoadToPort$Reader" (26 : Nat) "RoadToPort$Reader" "tooLong" "Z") ∈ zT := zj_in1 (i := 97) rfl rfl
theorem zw_1_98 : (Jvm.Cond.fieldLink "RoadToPort$Reader" (30 : Nat) "RoadToPort$Reader" "at" "I") ∈ zT := zj_in1 (i := 98) rfl rfl
theorem zw_1_99 : (Jvm.Cond.fieldLink "RoadToPort$Reader" (33 : Nat) "RoadToPort$Reader" "kind" "I") ∈ zT := zj_in1 (i := 99) rfl rfl
theorem zw_1_100 : (Jvm.Cond.fieldLink "RoadToPort$Phrase" (73 : Nat) "RoadToPort$Reader" "kind" "I") ∈ zT := zj_in1 (i := 100) rfl rfl
theorem zw_1_101 : (Jvm.Cond.fieldLink "RoadToPort$Land" (147 : Nat) "RoadToPort$Reader" "kind" "I") ∈ zT := zj_in1 (i := 101) rfl rfl
theorem zw_1_102 : (Jvm.Cond.fieldLink "RoadToPort$Reader" (36 : Nat) "RoadToPort$Reader" "start" "I") ∈ zT := zj_in1 (i := 102) rfl rfl
theorem zw_1_103 : (Jvm.Cond.fieldLink "RoadToPort$Reader" (39 : Nat) "RoadToPort$Reader" "key" "I") ∈ zT := zj_in1 (i := 103) rfl rfl
theorem zw_1_104 : (Jvm.Cond.fieldLink "RoadToPort$Ledger" (45 : Nat) "RoadToPort$Reader" "key" "I") ∈ zT := zj_in1 (i := 104) rfl rfl
theorem zw_1_105 : (Jvm.Cond.fieldLink "RoadToPort$Phrase" (60 : Nat) "RoadToPort$Reader" "key" "I") ∈ zT := zj_in1 (i := 105) rfl rfl
theorem zw_1_106 : (Jvm.Cond.fieldLink "RoadToPort$Land" (106 : Nat) "RoadToPort$Reader" "key" "I") ∈ zT := zj_in1 (i := 106) rfl rfl
theorem zw_1_107 : (Jvm.Cond.fieldLink "RoadToPort$Reader" (42 : Nat) "RoadToPort$Reader" "value" "I") ∈ zT := zj_in1 (i := 107) rfl rfl
theorem zw_1_108 : (Jvm.Cond.fieldLink "RoadToPort$Reader" (45 : Nat) "RoadToPort$Reader" "name" "J") ∈ zT := zj_in1 (i := 108) rfl rfl
theorem zw_1_109 : (Jvm.Cond.fieldLink "RoadToPort$Land" (150 : Nat) "RoadToPort$Reader" "name" "J") ∈ zT := zj_in1 (i := 109) rfl rfl
theorem zw_1_110 : (Jvm.Cond.fieldLink "RoadToPort$Reader" (49 : Nat) "RoadToPort$Reader" "fault" "I") ∈ zT := zj_in1 (i := 110) rfl rfl
theorem zw_1_111 : (Jvm.Cond.fieldLink "RoadToPort$Ledger" (42 : Nat) "RoadToPort$Reader" "fault" "I") ∈ zT := zj_in1 (i := 111) rfl rfl
theorem zw_1_112 : (Jvm.Cond.fieldLink "RoadToPort$Phrase" (54 : Nat) "RoadToPort$Reader" "fault" "I") ∈ zT := zj_in1 (i := 112) rfl rfl
theorem zw_1_113 : (Jvm.Cond.fieldLink "RoadToPort" (144 : Nat) "RoadToPort$Reader" "fault" "I") ∈ zT := zj_in1 (i := 113) rfl rfl
theorem zw_1_114 : (Jvm.Cond.fieldLink "RoadToPort$Land" (97 : Nat) "RoadToPort$Reader" "fault" "I") ∈ zT := zj_in1 (i := 114) rfl rfl
theorem zw_1_115 : (Jvm.Cond.fieldLink "RoadToPort$Reader" (52 : Nat) "RoadToPort$Reader" "faultAt" "I") ∈ zT := zj_in1 (i := 115) rfl rfl
theorem zw_1_116 : (Jvm.Cond.fieldLink "RoadToPort" (130 : Nat) "RoadToPort$Reader" "faultAt" "I") ∈ zT := zj_in1 (i := 116) rfl rfl
theorem zw_1_117 : (Jvm.Cond.laysFinal "RoadToPort$Reader" "RoadToPort$Reader" "tape" "[B") ∈ zT := zj_in1 (i := 117) rfl rfl
theorem zw_1_119 : (Jvm.Cond.lays "RoadToPort$Reader" "RoadToPort$Reader" "length" "I") ∈ zT := zj_in1 (i := 119) rfl rfl
theorem zw_1_121 : (Jvm.Cond.laysFinal "RoadToPort$Reader" "RoadToPort$Reader" "keys" "[J") ∈ zT := zj_in1 (i := 121) rfl rfl
theorem zw_1_123 : (Jvm.Cond.lays "RoadToPort$Reader" "RoadToPort$Reader" "limit" "I") ∈ zT := zj_in1 (i := 123) rfl rfl
theorem zw_1_125 : (Jvm.Cond.lays "RoadToPort$Reader" "RoadToPort$Reader" "tooLong" "Z") ∈ zT := zj_in1 (i := 125) rfl rfl
theorem zw_1_127 : (Jvm.Cond.lays "RoadToPort$Reader" "RoadToPort$Reader" "at" "I") ∈ zT := zj_in1 (i := 127) rfl rfl
theorem zw_1_129 : (Jvm.Cond.lays "RoadToPort$Reader" "RoadToPort$Reader" "kind" "I") ∈ zT := zj_in1 (i := 129) rfl rfl
theorem zw_1_131 : (Jvm.Cond.lays "RoadToPort$Reader" "RoadToPort$Reader" "start" "I") ∈ zT := zj_in1 (i := 131) rfl rfl
theorem zw_1_133 : (Jvm.Cond.lays "RoadToPort$Reader" "RoadToPort$Reader" "key" "I") ∈ zT := zj_in1 (i := 133) rfl rfl
theorem zw_1_135 : (Jvm.Cond.lays "RoadToPort$Reader" "RoadToPort$Reader" "value" "I") ∈ zT := zj_in1 (i := 135) rfl rfl
theorem zw_1_137 : (Jvm.Cond.lays "RoadToPort$Reader" "RoadToPort$Reader" "name" "J") ∈ zT := zj_in1 (i := 137) rfl rfl
theorem zw_1_139 : (Jvm.Cond.lays "RoadToPort$Reader" "RoadToPort$Reader" "fault" "I") ∈ zT := zj_in1 (i := 139) rfl rfl
theorem zw_1_141 : (Jvm.Cond.lays "RoadToPort$Reader" "RoadToPort$Reader" "faultAt" "I") ∈ zT := zj_in1 (i := 141) rfl rfl
theorem zw_1_144 : (Jvm.Cond.arrayClass Jvm.ClassFile.FieldType.byte) ∈ zT := zj_in1 (i := 144) rfl rfl
theorem zw_1_145 : (Jvm.Cond.arrayClass Jvm.ClassFile.FieldType.long) ∈ zT := zj_in1 (i := 145) rfl rfl
theorem zw_1_146 : (Jvm.Cond.classLink "RoadToPort" (16 : Nat) "RoadToPort$Land") ∈ zT := zj_in1 (i := 146) rfl rfl
theorem zw_1_147 : (Jvm.Cond.instantiable "RoadToPort$Land" (14 : Nat)) ∈ zT := zj_in1 (i := 147) rfl rfl
theorem zw_1_149 : (Jvm.Cond.instanceMethod ({ cls := "RoadToPort$Land", name := "<init>", desc := "()V" } : Jvm.MethodName)) ∈ zT := zj_in1 (i := 149) rfl rfl
theorem zw_1_150 : (Jvm.Cond.code ({ cls := "RoadToPort$Land", name := "<init>", desc := "()V" } : Jvm.MethodName) prog_5_method_1_code (1 : Nat) (Option.none : Option Jvm.ClassFile.FieldType)) ∈ zT := zj_in1 (i := 150) rfl rfl
theorem zw_1_151 : (Jvm.Cond.methodLink "RoadToPort$Land" (3 : Nat) ({ cls := "java/lang/Object", name := "<init>", desc := "()V" } : Jvm.MethodName)) ∈ zT := zj_in1 (i := 151) rfl rfl
theorem zw_1_152 : (Jvm.Cond.fieldLink "RoadToPort$Land" (9 : Nat) "RoadToPort$Land" "places" "I") ∈ zT := zj_in1 (i := 152) rfl rfl
theorem zw_1_153 : (Jvm.Cond.fieldLink "RoadToPort$Sender" (45 : Nat) "RoadToPort$Land" "places" "I") ∈ zT := zj_in1 (i := 153) rfl rfl
theorem zw_1_154 : (Jvm.Cond.fieldLink "RoadToPort" (147 : Nat) "RoadToPort$Land" "places" "I") ∈ zT := zj_in1 (i := 154) rfl rfl
theorem zw_1_155 : (Jvm.Cond.fieldLink "RoadToPort$Land" (15 : Nat) "RoadToPort$Land" "roads" "I") ∈ zT := zj_in1 (i := 155) rfl rfl
theorem zw_1_156 : (Jvm.Cond.fieldLink "RoadToPort$Cutter" (29 : Nat) "RoadToPort$Land" "roads" "I") ∈ zT := zj_in1 (i := 156) rfl rfl
theorem zw_1_157 : (Jvm.Cond.fieldLink "RoadToPort" (150 : Nat) "RoadToPort$Land" "roads" "I") ∈ zT := zj_in1 (i := 157) rfl rfl
theorem zw_1_158 : (Jvm.Cond.fieldLink "RoadToPort$Land" (18 : Nat) "RoadToPort$Land" "men" "I") ∈ zT := zj_in1 (i := 158) rfl rfl
theorem zw_1_159 : (Jvm.Cond.fieldLink "RoadToPort$Sender" (28 : Nat) "RoadToPort$Land" "men" "I") ∈ zT := zj_in1 (i := 159) rfl rfl
theorem zw_1_160 : (Jvm.Cond.fieldLink "RoadToPort$Folk" (34 : Nat) "RoadToPort$Land" "men" "I") ∈ zT := zj_in1 (i := 160) rfl rfl
theorem zw_1_161 : (Jvm.Cond.fieldLink "RoadToPort$Ledger" (85 : Nat) "RoadToPort$Land" "men" "I") ∈ zT := zj_in1 (i := 161) rfl rfl
theorem zw_1_162 : (Jvm.Cond.fieldLink "RoadToPort" (153 : Nat) "RoadToPort$Land" "men" "I") ∈ zT := zj_in1 (i := 162) rfl rfl
theorem zw_1_163 : (Jvm.Cond.fieldLink "RoadToPort$Land" (21 : Nat) "RoadToPort$Land" "ports" "I") ∈ zT := zj_in1 (i := 163) rfl rfl
theorem zw_1_164 : (Jvm.Cond.fieldLink "RoadToPort" (156 : Nat) "RoadToPort$Land" "ports" "I") ∈ zT := zj_in1 (i := 164) rfl rfl
theorem zw_1_165 : (Jvm.Cond.fieldLink "RoadToPort$Land" (24 : Nat) "RoadToPort$Land" "lines" "I") ∈ zT := zj_in1 (i := 165) rfl rfl
theorem zw_1_166 : (Jvm.Cond.fieldLink "RoadToPort" (141 : Nat) "RoadToPort$Land" "lines" "I") ∈ zT := zj_in1 (i := 166) rfl rfl
theorem zw_1_167 : (Jvm.Cond.fieldLink "RoadToPort$Land" (27 : Nat) "RoadToPort$Land" "placeNames" "[J") ∈ zT := zj_in1 (i := 167) rfl rfl
theorem zw_1_169 : (Jvm.Cond.fieldLink "RoadToPort$Land" (31 : Nat) "RoadToPort$Land" "manNames" "[J") ∈ zT := zj_in1 (i := 168) rfl rfl
theorem zw_1_171 : (Jvm.Cond.fieldLink "RoadToPort$Land" (34 : Nat) "RoadToPort$Land" "placeRows" "[I") ∈ zT := zj_in1 (i := 169) rfl rfl
theorem zw_1_172 : (Jvm.Cond.fieldLink "RoadToPort$Land" (38 : Nat) "RoadToPort$Land" "roadRows" "[I") ∈ zT := zj_in1 (i := 170) rfl rfl
theorem zw_1_173 : (Jvm.Cond.fieldLink "RoadToPort$Land" (41 : Nat) "RoadToPort$Land" "manRows" "[I") ∈ zT := zj_in1 (i := 171) rfl rfl
theorem zw_1_174 : (Jvm.Cond.fieldLink "RoadToPort$Land" (44 : Nat) "RoadToPort$Land" "between" "[I") ∈ zT := zj_in1 (i := 172) rfl rfl
theorem zw_1_175 : (Jvm.Cond.fieldLink "RoadToPort$Land" (47 : Nat) "RoadToPort$Land" "miles" "[I") ∈ zT := zj_in1 (i := 173) rfl rfl
theorem zw_1_176 : (Jvm.Cond.fieldLink "RoadToPort$Land" (50 : Nat) "RoadToPort$Land" "nexts" "[I") ∈ zT := zj_in1 (i := 174) rfl rfl
theorem zw_1_177 : (Jvm.Cond.fieldLink "RoadToPort$Land" (53 : Nat) "RoadToPort$Land" "towards" "[I") ∈ zT := zj_in1 (i := 175) rfl rfl
theorem zw_1_178 : (Jvm.Cond.lays "RoadToPort$Land" "RoadToPort$Land" "places" "I") ∈ zT := zj_in1 (i := 176) rfl rfl
theorem zw_1_180 : (Jvm.Cond.lays "RoadToPort$Land" "RoadToPort$Land" "roads" "I") ∈ zT := zj_in1 (i := 178) rfl rfl
theorem zw_1_182 : (Jvm.Cond.lays "RoadToPort$Land" "RoadToPort$Land" "men" "I") ∈ zT := zj_in1 (i := 180) rfl rfl
theorem zw_1_184 : (Jvm.Cond.lays "RoadToPort$Land" "RoadToPort$Land" "ports" "I") ∈ zT := zj_in1 (i := 182) rfl rfl
theorem zw_1_186 : (Jvm.Cond.lays "RoadToPort$Land" "RoadToPort$Land" "lines" "I") ∈ zT := zj_in1 (i := 184) rfl rfl
theorem zw_1_188 : (Jvm.Cond.laysFinal "RoadToPort$Land" "RoadToPort$Land" "placeNames" "[J") ∈ zT := zj_in1 (i := 186) rfl rfl
theorem zw_1_190 : (Jvm.Cond.laysFinal "RoadToPort$Land" "RoadToPort$Land" "manNames" "[J") ∈ zT := zj_in1 (i := 188) rfl rfl
theorem zw_1_192 : (Jvm.Cond.laysFinal "RoadToPort$Land" "RoadToPort$Land" "placeRows" "[I") ∈ zT := zj_in1 (i := 190) rfl rfl
theorem zw_1_194 : (Jvm.Cond.laysFinal "RoadToPort$Land" "RoadToPort$Land" "roadRows" "[I") ∈ zT := zj_in1 (i := 192) rfl rfl
theorem zw_1_196 : (Jvm.Cond.laysFinal "RoadToPort$Land" "RoadToPort$Land" "manRows" "[I") ∈ zT := zj_in1 (i := 194) rfl rfl
theorem zw_1_198 : (Jvm.Cond.laysFinal "RoadToPort$Land" "RoadToPort$Land" "between" "[I") ∈ zT := zj_in1 (i := 196) rfl rfl
theorem zw_1_200 : (Jvm.Cond.laysFinal "RoadToPort$Land" "RoadToPort$Land" "miles" "[I") ∈ zT := zj_in1 (i := 198) rfl rfl
theorem zw_1_202 : (Jvm.Cond.laysFinal "RoadToPort$Land" "RoadToPort$Land" "nexts" "[I") ∈ zT := zj_in1 (i := 200) rfl rfl
theorem zw_1_204 : (Jvm.Cond.laysFinal "RoadToPort$Land" "RoadToPort$Land" "towards" "[I") ∈ zT := zj_in1 (i := 202) rfl rfl
theorem zw_1_207 : (Jvm.Cond.arrayClass Jvm.ClassFile.FieldType.int) ∈ zT := zj_in1 (i := 205) rfl rfl
theorem zw_1_208 : (Jvm.Cond.classLink "RoadToPort" (26 : Nat) "RoadToPort$Folk") ∈ zT := zj_in1 (i := 206) rfl rfl
theorem zw_1_209 : (Jvm.Cond.instantiable "RoadToPort$Folk" (3 : Nat)) ∈ zT := zj_in1 (i := 207) rfl rfl
theorem zw_1_211 : (Jvm.Cond.instanceMethod ({ cls := "RoadToPort$Folk", name := "<init>", desc := "()V" } : Jvm.MethodName)) ∈ zT := zj_in1 (i := 209) rfl rfl
theorem zw_1_212 : (Jvm.Cond.code ({ cls := "RoadToPort$Folk", name := "<init>", desc := "()V" } : Jvm.MethodName) prog_3_method_1_code (1 : Nat) (Option.none : Option Jvm.ClassFile.FieldType)) ∈ zT := zj_in1 (i := 210) rfl rfl
theorem zw_1_213 : (Jvm.Cond.methodLink "RoadToPort$Folk" (3 : Nat) ({ cls := "java/lang/Object", name := "<init>", desc := "()V" } : Jvm.MethodName)) ∈ zT := zj_in1 (i := 211) rfl rfl
theorem zw_1_214 : (Jvm.Cond.fieldLink "RoadToPort$Folk" (11 : Nat) "RoadToPort$Folk" "row" "[I") ∈ zT := zj_in1 (i := 212) rfl rfl
theorem zw_1_215 : (Jvm.Cond.fieldLink "RoadToPort$Folk" (15 : Nat) "RoadToPort$Folk" "day" "I") ∈ zT := zj_in1 (i := 213) rfl rfl
theorem zw_1_216 : (Jvm.Cond.fieldLink "RoadToPort$Folk" (19 : Nat) "RoadToPort$Folk" "seed" "I") ∈ zT := zj_in1 (i := 214) rfl rfl
theorem zw_1_217 : (Jvm.Cond.laysFinal "RoadToPort$Folk" "RoadToPort$Folk" "row" "[I") ∈ zT := zj_in1 (i := 215) rfl rfl
theorem zw_1_219 : (Jvm.Cond.lays "RoadToPort$Folk" "RoadToPort$Folk" "day" "I") ∈ zT := zj_in1 (i := 217) rfl rfl
theorem zw_1_221 : (Jvm.Cond.lays "RoadToPort$Folk" "RoadToPort$Folk" "seed" "I") ∈ zT := zj_in1 (i := 219) rfl rfl
theorem zw_1_224 : (Jvm.Cond.classLink "RoadToPort" (36 : Nat) "RoadToPort$Phrase") ∈ zT := zj_in1 (i := 222) rfl rfl
theorem zw_1_225 : (Jvm.Cond.instantiable "RoadToPort$Phrase" (5 : Nat)) ∈ zT := zj_in1 (i := 223) rfl rfl
theorem zw_1_227 : (Jvm.Cond.instanceMethod ({ cls := "RoadToPort$Phrase", name := "<init>", desc := "()V" } : Jvm.MethodName)) ∈ zT := zj_in1 (i := 225) rfl rfl
theorem zw_1_228 : (Jvm.Cond.code ({ cls := "RoadToPort$Phrase", name := "<init>", desc := "()V" } : Jvm.MethodName) prog_7_method_1_code (1 : Nat) (Option.none : Option Jvm.ClassFile.FieldType)) ∈ zT := zj_in1 (i := 226) rfl rfl
theorem zw_1_229 : (Jvm.Cond.methodLink "RoadToPort$Phrase" (5 : Nat) ({ cls := "java/lang/Object", name := "<init>", desc := "()V" } : Jvm.MethodName)) ∈ zT := zj_in1 (i := 227) rfl rfl
theorem zw_1_230 : (Jvm.Cond.fieldLink "RoadToPort$Phrase" (11 : Nat) "RoadToPort$Phrase" "ones" "I") ∈ zT := zj_in1 (i := 228) rfl rfl
theorem zw_1_231 : (Jvm.Cond.fieldLink "RoadToPort" (321 : Nat) "RoadToPort$Phrase" "ones" "I") ∈ zT := zj_in1 (i := 229) rfl rfl
theorem zw_1_232 : (Jvm.Cond.fieldLink "RoadToPort$Phrase" (15 : Nat) "RoadToPort$Phrase" "parts" "I") ∈ zT := zj_in1 (i := 230) rfl rfl
theorem zw_1_233 : (Jvm.Cond.fieldLink "RoadToPort$Phrase" (18 : Nat) "RoadToPort$Phrase" "keys" "[I") ∈ zT := zj_in1 (i := 231) rfl rfl
theorem zw_1_234 : (Jvm.Cond.fieldLink "RoadToPort$Phrase" (22 : Nat) "RoadToPort$Phrase" "signs" "[I") ∈ zT := zj_in1 (i := 232) rfl rfl
theorem zw_1_235 : (Jvm.Cond.fieldLink "RoadToPort$Phrase" (25 : Nat) "RoadToPort$Phrase" "values" "[I") ∈ zT := zj_in1 (i := 233) rfl rfl
theorem zw_1_236 : (Jvm.Cond.lays "RoadToPort$Phrase" "RoadToPort$Phrase" "ones" "I") ∈ zT := zj_in1 (i := 234) rfl rfl
theorem zw_1_238 : (Jvm.Cond.lays "RoadToPort$Phrase" "RoadToPort$Phrase" "parts" "I") ∈ zT := zj_in1 (i := 236) rfl rfl
theorem zw_2_0 : (Jvm.Cond.laysFinal "RoadToPort$Phrase" "RoadToPort$Phrase" "keys" "[I") ∈ zT := zj_in1 (i := 238) rfl rfl
theorem zw_2_2 : (Jvm.Cond.laysFinal "RoadToPort$Phrase" "RoadToPort$Phrase" "signs" "[I") ∈ zT := zj_in2 (i := 0) rfl rfl
theorem zw_2_4 : (Jvm.Cond.laysFinal "RoadToPort$Phrase" "RoadToPort$Phrase" "values" "[I") ∈ zT := zj_in2 (i := 2) rfl rfl
theorem zw_2_7 : (Jvm.Cond.classLink "RoadToPort" (46 : Nat) "RoadToPort$History") ∈ zT := zj_in2 (i := 5) rfl rfl
theorem zw_2_8 : (Jvm.Cond.instantiable "RoadToPort$History" (3 : Nat)) ∈ zT := zj_in2 (i := 6) rfl rfl
theorem zw_2_9 : (Jvm.Cond.methodLink "RoadToPort" (48 : Nat) ({ cls := "RoadToPort$History", name := "<init>", desc := "()V" } : Jvm.MethodName)) ∈ zT := zj_in2 (i := 7) rfl rfl
theorem zw_2_10 : (Jvm.Cond.instanceMethod ({ cls := "RoadToPort$History", name := "<init>", desc := "()V" } : Jvm.MethodName)) ∈ zT := zj_in2 (i := 8) rfl rfl
theorem zw_2_11 : (Jvm.Cond.code ({ cls := "RoadToPort$History", name := "<init>", desc := "()V" } : Jvm.MethodName) prog_4_method_1_code (2 : Nat) (Option.none : Option Jvm.ClassFile.FieldType)) ∈ zT := zj_in2 (i := 9) rfl rfl
theorem zw_2_12 : (Jvm.Cond.methodLink "RoadToPort$History" (3 : Nat) ({ cls := "java/lang/Object", name := "<init>", desc := "()V" } : Jvm.MethodName)) ∈ zT := zj_in2 (i := 10) rfl rfl
theorem zw_2_13 : (Jvm.Cond.classLink "RoadToPort$History" (11 : Nat) "RoadToPort$Folk") ∈ zT := zj_in2 (i := 11) rfl rfl
theorem zw_2_16 : (Jvm.Cond.fieldLink "RoadToPort$History" (13 : Nat) "RoadToPort$History" "kept" "[LRoadToPort$Folk;") ∈ zT := zj_in2 (i := 14) rfl rfl
theorem zw_2_17 : (Jvm.Cond.fieldLink "RoadToPort$History" (17 : Nat) "RoadToPort$History" "first" "I") ∈ zT := zj_in2 (i := 15) rfl rfl
theorem zw_2_18 : (Jvm.Cond.fieldLink "RoadToPort$History" (21 : Nat) "RoadToPort$History" "size" "I") ∈ zT := zj_in2 (i := 16) rfl rfl
theorem zw_2_19 : (Jvm.Cond.laysFinal "RoadToPort$History" "RoadToPort$History" "kept" "[LRoadToPort$Folk;") ∈ zT := zj_in2 (i := 17) rfl rfl
theorem zw_2_21 : (Jvm.Cond.lays "RoadToPort$History" "RoadToPort$History" "first" "I") ∈ zT := zj_in2 (i := 19) rfl rfl
theorem zw_2_23 : (Jvm.Cond.lays "RoadToPort$History" "RoadToPort$History" "size" "I") ∈ zT := zj_in2 (i := 21) rfl rfl
theorem zw_2_28 : (Jvm.Cond.classLink "RoadToPort" (65 : Nat) "RoadToPort$Ledger") ∈ zT := zj_in2 (i := 26) rfl rfl
theorem zw_2_29 : (Jvm.Cond.instantiable "RoadToPort$Ledger" (4 : Nat)) ∈ zT := zj_in2 (i := 27) rfl rfl
theorem zw_2_31 : (Jvm.Cond.instanceMethod ({ cls := "RoadToPort$Ledger", name := "<init>", desc := "()V" } : Jvm.MethodName)) ∈ zT := zj_in2 (i := 29) rfl rfl
theorem zw_2_32 : (Jvm.Cond.code ({ cls := "RoadToPort$Ledger", name := "<init>", desc := "()V" } : Jvm.MethodName) prog_6_method_1_code (1 : Nat) (Option.none : Option Jvm.ClassFile.FieldType)) ∈ zT := zj_in2 (i := 30) rfl rfl
theorem zw_2_33 : (Jvm.Cond.methodLink "RoadToPort$Ledger" (3 : Nat) ({ cls := "java/lang/Object", name := "<init>", desc := "()V" } : Jvm.MethodName)) ∈ zT := zj_in2 (i := 31) rfl rfl
theorem zw_2_34 : (Jvm.Cond.fieldLink "RoadToPort$Ledger" (9 : Nat) "RoadToPort$Ledger" "verdict" "[I") ∈ zT := zj_in2 (i := 32) rfl rfl
theorem zw_2_35 : (Jvm.Cond.fieldLink "RoadToPort" (317 : Nat) "RoadToPort$Ledger" "verdict" "[I") ∈ zT := zj_in2 (i := 33) rfl rfl
theorem zw_2_36 : (Jvm.Cond.fieldLink "RoadToPort$Ledger" (15 : Nat) "RoadToPort$Ledger" "lived" "I") ∈ zT := zj_in2 (i := 34) rfl rfl
theorem zw_2_37 : (Jvm.Cond.fieldLink "RoadToPort" (314 : Nat) "RoadToPort$Ledger" "lived" "I") ∈ zT := zj_in2 (i := 35) rfl rfl
theorem zw_2_38 : (Jvm.Cond.fieldLink "RoadToPort$Ledger" (19 : Nat) "RoadToPort$Ledger" "rows" "[I") ∈ zT := zj_in2 (i := 36) rfl rfl
theorem zw_2_39 : (Jvm.Cond.fieldLink "RoadToPort$Ledger" (22 : Nat) "RoadToPort$Ledger" "lines" "I") ∈ zT := zj_in2 (i := 37) rfl rfl
theorem zw_2_40 : (Jvm.Cond.laysFinal "RoadToPort$Ledger" "RoadToPort$Ledger" "verdict" "[I") ∈ zT := zj_in2 (i := 38) rfl rfl
theorem zw_2_42 : (Jvm.Cond.lays "RoadToPort$Ledger" "RoadToPort$Ledger" "lived" "I") ∈ zT := zj_in2 (i := 40) rfl rfl
theorem zw_2_44 : (Jvm.Cond.laysFinal "RoadToPort$Ledger" "RoadToPort$Ledger" "rows" "[I") ∈ zT := zj_in2 (i := 42) rfl rfl
theorem zw_2_46 : (Jvm.Cond.lays "RoadToPort$Ledger" "RoadToPort$Ledger" "lines" "I") ∈ zT := zj_in2 (i := 44) rfl rfl
theorem zw_2_49 : (Jvm.Cond.classLink "RoadToPort" (72 : Nat) "RoadToPort$Planner") ∈ zT := zj_in2 (i := 47) rfl rfl
theorem zw_2_50 : (Jvm.Cond.instantiable "RoadToPort$Planner" (5 : Nat)) ∈ zT := zj_in2 (i := 48) rfl rfl
theorem zw_2_51 : (Jvm.Cond.methodLink "RoadToPort" (74 : Nat) ({ cls := "RoadToPort$Planner", name := "<init>", desc := "()V" } : Jvm.MethodName)) ∈ zT := zj_in2 (i := 49) rfl rfl
theorem zw_2_52 : (Jvm.Cond.instanceMethod ({ cls := "RoadToPort$Planner", name := "<init>", desc := "()V" } : Jvm.MethodName)) ∈ zT := zj_in2 (i := 50) rfl rfl
theorem zw_2_53 : (Jvm.Cond.code ({ cls := "RoadToPort$Planner", name := "<init>", desc := "()V" } : Jvm.MethodName) prog_8_method_1_code (1 : Nat) (Option.none : Option Jvm.ClassFile.FieldType)) ∈ zT := zj_in2 (i := 51) rfl rfl
theorem zw_2_54 : (Jvm.Cond.methodLink "RoadToPort$Planner" (3 : Nat) ({ cls := "java/lang/Object", name := "<init>", desc := "()V" } : Jvm.MethodName)) ∈ zT := zj_in2 (i := 52) rfl rfl
theorem zw_2_55 : (Jvm.Cond.methodLink "RoadToPort$Planner" (29 : Nat) ({ cls := "java/util/Arrays", name := "fill", desc := "([II)V" } : Jvm.MethodName)) ∈ zT := zj_in2 (i := 53) rfl rfl
theorem zw_2_56 : (Jvm.Cond.static ({ cls := "java/util/Arrays", name := "fill", desc := "([II)V" } : Jvm.MethodName)) ∈ zT := zj_in2 (i := 54) rfl rfl
theorem zw_2_57 : (Jvm.Cond.code ({ cls := "java/util/Arrays", name := "fill", desc := "([II)V" } : Jvm.MethodName) prog_29_method_103_code (4 : Nat) (Option.none : Option Jvm.ClassFile.FieldType)) ∈ zT := zj_in2 (i := 55) rfl rfl
theorem zw_2_58 : (Jvm.Cond.fieldLink "RoadToPort$Planner" (9 : Nat) "RoadToPort$Planner" "above" "J") ∈ zT := zj_in2 (i := 56) rfl rfl
theorem zw_2_59 : (Jvm.Cond.fieldLink "RoadToPort" (253 : Nat) "RoadToPort$Planner" "above" "J") ∈ zT := zj_in2 (i := 57) rfl rfl
theorem zw_2_60 : (Jvm.Cond.fieldLink "RoadToPort$Planner" (15 : Nat) "RoadToPort$Planner" "below" "J") ∈ zT := zj_in2 (i := 58) rfl rfl
theorem zw_2_61 : (Jvm.Cond.fieldLink "RoadToPort" (257 : Nat) "RoadToPort$Planner" "below" "J") ∈ zT := zj_in2 (i := 59) rfl rfl
theorem zw_2_62 : (Jvm.Cond.fieldLink "RoadToPort$Planner" (18 : Nat) "RoadToPort$Planner" "chosen" "[I") ∈ zT := zj_in2 (i := 60) rfl rfl
theorem zw_2_63 : (Jvm.Cond.fieldLink "RoadToPort$Planner" (22 : Nat) "RoadToPort$Planner" "survives" "[I") ∈ zT := zj_in2 (i := 61) rfl rfl
theorem zw_2_64 : (Jvm.Cond.fieldLink "RoadToPort$Planner" (25 : Nat) "RoadToPort$Planner" "cases" "[J") ∈ zT := zj_in2 (i := 62) rfl rfl
theorem zw_2_65 : (Jvm.Cond.lays "RoadToPort$Planner" "RoadToPort$Planner" "above" "J") ∈ zT := zj_in2 (i := 63) rfl rfl
theorem zw_2_67 : (Jvm.Cond.lays "RoadToPort$Planner" "RoadToPort$Planner" "below" "J") ∈ zT := zj_in2 (i := 65) rfl rfl
theorem zw_2_69 : (Jvm.Cond.laysFinal "RoadToPort$Planner" "RoadToPort$Planner" "chosen" "[I") ∈ zT := zj_in2 (i := 67) rfl rfl
theorem zw_2_71 : (Jvm.Cond.lays "RoadToPort$Planner" "RoadToPort$Planner" "survives" "[I") ∈ zT := zj_in2 (i := 69) rfl rfl
theorem zw_2_73 : (Jvm.Cond.lays "RoadToPort$Planner" "RoadToPort$Planner" "cases" "[J") ∈ zT := zj_in2 (i := 71) rfl rfl
theorem zw_2_76 : (Jvm.Cond.classLink "RoadToPort" (79 : Nat) "RoadToPort$Sender") ∈ zT := zj_in2 (i := 74) rfl rfl
theorem zw_2_77 : (Jvm.Cond.instantiable "RoadToPort$Sender" (3 : Nat)) ∈ zT := zj_in2 (i := 75) rfl rfl
theorem zw_2_78 : (Jvm.Cond.methodLink "RoadToPort" (81 : Nat) ({ cls := "RoadToPort$Sender", name := "<init>", desc := "()V" } : Jvm.MethodName)) ∈ zT := zj_in2 (i := 76) rfl rfl
theorem zw_2_79 : (Jvm.Cond.instanceMethod ({ cls := "RoadToPort$Sender", name := "<init>", desc := "()V" } : Jvm.MethodName)) ∈ zT := zj_in2 (i := 77) rfl rfl
theorem zw_2_80 : (Jvm.Cond.code ({ cls := "RoadToPort$Sender", name := "<init>", desc := "()V" } : Jvm.MethodName) prog_11_method_1_code (1 : Nat) (Option.none : Option Jvm.ClassFile.FieldType)) ∈ zT := zj_in2 (i := 78) rfl rfl
theorem zw_2_81 : (Jvm.Cond.methodLink "RoadToPort$Sender" (3 : Nat) ({ cls := "java/lang/Object", name := "<init>", desc := "()V" } : Jvm.MethodName)) ∈ zT := zj_in2 (i := 79) rfl rfl
theorem zw_2_82 : (Jvm.Cond.methodLink "RoadToPort$Sender" (22 : Nat) ({ cls := "java/util/Arrays", name := "fill", desc := "([II)V" } : Jvm.MethodName)) ∈ zT := zj_in2 (i := 80) rfl rfl
theorem zw_2_83 : (Jvm.Cond.fieldLink "RoadToPort$Sender" (9 : Nat) "RoadToPort$Sender" "ports" "[I") ∈ zT := zj_in2 (i := 81) rfl rfl
theorem zw_2_84 : (Jvm.Cond.fieldLink "RoadToPort$Sender" (15 : Nat) "RoadToPort$Sender" "best" "[J") ∈ zT := zj_in2 (i := 82) rfl rfl
theorem zw_2_85 : (Jvm.Cond.fieldLink "RoadToPort$Sender" (19 : Nat) "RoadToPort$Sender" "costs" "[J") ∈ zT := zj_in2 (i := 83) rfl rfl
theorem zw_2_86 : (Jvm.Cond.laysFinal "RoadToPort$Sender" "RoadToPort$Sender" "ports" "[I") ∈ zT := zj_in2 (i := 84) rfl rfl
theorem zw_2_88 : (Jvm.Cond.laysFinal "RoadToPort$Sender" "RoadToPort$Sender" "best" "[J") ∈ zT := zj_in2 (i := 86) rfl rfl
theorem zw_2_90 : (Jvm.Cond.laysFinal "RoadToPort$Sender" "RoadToPort$Sender" "costs" "[J") ∈ zT := zj_in2 (i := 88) rfl rfl
theorem zw_2_93 : (Jvm.Cond.classLink "RoadToPort" (86 : Nat) "RoadToPort$Cutter") ∈ zT := zj_in2 (i := 91) rfl rfl
theorem zw_2_94 : (Jvm.Cond.instantiable "RoadToPort$Cutter" (4 : Nat)) ∈ zT := zj_in2 (i := 92) rfl rfl
theorem zw_2_96 : (Jvm.Cond.instanceMethod ({ cls := "RoadToPort$Cutter", name := "<init>", desc := "()V" } : Jvm.MethodName)) ∈ zT := zj_in2 (i := 94) rfl rfl
theorem zw_2_97 : (Jvm.Cond.code ({ cls := "RoadToPort$Cutter", name := "<init>", desc := "()V" } : Jvm.MethodName) prog_2_method_1_code (1 : Nat) (Option.none : Option Jvm.ClassFile.FieldType)) ∈ zT := zj_in2 (i := 95) rfl rfl
theorem zw_2_98 : (Jvm.Cond.methodLink "RoadToPort$Cutter" (3 : Nat) ({ cls := "java/lang/Object", name := "<init>", desc := "()V" } : Jvm.MethodName)) ∈ zT := zj_in2 (i := 96) rfl rfl
theorem zw_2_99 : (Jvm.Cond.fieldLink "RoadToPort$Cutter" (9 : Nat) "RoadToPort$Cutter" "latest" "I") ∈ zT := zj_in2 (i := 97) rfl rfl
theorem zw_2_100 : (Jvm.Cond.fieldLink "RoadToPort" (273 : Nat) "RoadToPort$Cutter" "latest" "I") ∈ zT := zj_in2 (i := 98) rfl rfl
theorem zw_2_101 : (Jvm.Cond.fieldLink "RoadToPort$Cutter" (15 : Nat) "RoadToPort$Cutter" "flows" "[I") ∈ zT := zj_in2 (i := 99) rfl rfl
theorem zw_2_102 : (Jvm.Cond.fieldLink "RoadToPort$Cutter" (19 : Nat) "RoadToPort$Cutter" "cameBy" "[I") ∈ zT := zj_in2 (i := 100) rfl rfl
theorem zw_2_103 : (Jvm.Cond.fieldLink "RoadToPort$Cutter" (22 : Nat) "RoadToPort$Cutter" "queue" "[I") ∈ zT := zj_in2 (i := 101) rfl rfl
theorem zw_2_104 : (Jvm.Cond.lays "RoadToPort$Cutter" "RoadToPort$Cutter" "latest" "I") ∈ zT := zj_in2 (i := 102) rfl rfl
theorem zw_2_106 : (Jvm.Cond.laysFinal "RoadToPort$Cutter" "RoadToPort$Cutter" "flows" "[I") ∈ zT := zj_in2 (i := 104) rfl rfl
theorem zw_2_108 : (Jvm.Cond.laysFinal "RoadToPort$Cutter" "RoadToPort$Cutter" "cameBy" "[I") ∈ zT := zj_in2 (i := 106) rfl rfl
theorem zw_2_110 : (Jvm.Cond.laysFinal "RoadToPort$Cutter" "RoadToPort$Cutter" "queue" "[I") ∈ zT := zj_in2 (i := 108) rfl rfl
theorem zw_2_113 : (Jvm.Cond.classLink "RoadToPort" (93 : Nat) "RoadToPort$Scribe") ∈ zT := zj_in2 (i := 111) rfl rfl
theorem zw_2_114 : (Jvm.Cond.instantiable "RoadToPort$Scribe" (2 : Nat)) ∈ zT := zj_in2 (i := 112) rfl rfl
theorem zw_2_116 : (Jvm.Cond.instanceMethod ({ cls := "RoadToPort$Scribe", name := "<init>", desc := "()V" } : Jvm.MethodName)) ∈ zT := zj_in2 (i := 114) rfl rfl
theorem zw_2_117 : (Jvm.Cond.code ({ cls := "RoadToPort$Scribe", name := "<init>", desc := "()V" } : Jvm.MethodName) prog_10_method_1_code (1 : Nat) (Option.none : Option Jvm.ClassFile.FieldType)) ∈ zT := zj_in2 (i := 115) rfl rfl
theorem zw_2_118 : (Jvm.Cond.methodLink "RoadToPort$Scribe" (3 : Nat) ({ cls := "java/lang/Object", name := "<init>", desc := "()V" } : Jvm.MethodName)) ∈ zT := zj_in2 (i := 116) rfl rfl
theorem zw_2_119 : (Jvm.Cond.fieldLink "RoadToPort$Scribe" (11 : Nat) "RoadToPort$Scribe" "text" "[B") ∈ zT := zj_in2 (i := 117) rfl rfl
theorem zw_2_120 : (Jvm.Cond.fieldLink "RoadToPort" (300 : Nat) "RoadToPort$Scribe" "text" "[B") ∈ zT := zj_in2 (i := 118) rfl rfl
theorem zw_2_121 : (Jvm.Cond.fieldLink "RoadToPort$Scribe" (15 : Nat) "RoadToPort$Scribe" "length" "I") ∈ zT := zj_in2 (i := 119) rfl rfl
theorem zw_2_122 : (Jvm.Cond.fieldLink "RoadToPort" (299 : Nat) "RoadToPort$Scribe" "length" "I") ∈ zT := zj_in2 (i := 120) rfl rfl
theorem zw_2_123 : (Jvm.Cond.laysFinal "RoadToPort$Scribe" "RoadToPort$Scribe" "text" "[B") ∈ zT := zj_in2 (i := 121) rfl rfl
theorem zw_2_125 : (Jvm.Cond.lays "RoadToPort$Scribe" "RoadToPort$Scribe" "length" "I") ∈ zT := zj_in2 (i := 123) rfl rfl
theorem zw_2_128 : (Jvm.Cond.classLink "RoadToPort" (100 : Nat) "RoadToPort$Tracker") ∈ zT := zj_in2 (i := 126) rfl rfl
theorem zw_2_129 : (Jvm.Cond.instantiable "RoadToPort$Tracker" (4 : Nat)) ∈ zT := zj_in2 (i := 127) rfl rfl
theorem zw_2_131 : (Jvm.Cond.instanceMethod ({ cls := "RoadToPort$Tracker", name := "<init>", desc := "()V" } : Jvm.MethodName)) ∈ zT := zj_in2 (i := 129) rfl rfl
theorem zw_2_132 : (Jvm.Cond.code ({ cls := "RoadToPort$Tracker", name := "<init>", desc := "()V" } : Jvm.MethodName) prog_12_method_1_code (1 : Nat) (Option.none : Option Jvm.ClassFile.FieldType)) ∈ zT := zj_in2 (i := 130) rfl rfl
theorem zw_2_133 : (Jvm.Cond.methodLink "RoadToPort$Tracker" (3 : Nat) ({ cls := "java/lang/Object", name := "<init>", desc := "()V" } : Jvm.MethodName)) ∈ zT := zj_in2 (i := 131) rfl rfl
theorem zw_2_134 : (Jvm.Cond.fieldLink "RoadToPort$Tracker" (9 : Nat) "RoadToPort$Tracker" "least" "I") ∈ zT := zj_in2 (i := 132) rfl rfl
theorem zw_2_135 : (Jvm.Cond.fieldLink "RoadToPort" (289 : Nat) "RoadToPort$Tracker" "least" "I") ∈ zT := zj_in2 (i := 133) rfl rfl
theorem zw_2_136 : (Jvm.Cond.fieldLink "RoadToPort$Tracker" (15 : Nat) "RoadToPort$Tracker" "greatest" "I") ∈ zT := zj_in2 (i := 134) rfl rfl
theorem zw_2_137 : (Jvm.Cond.fieldLink "RoadToPort" (292 : Nat) "RoadToPort$Tracker" "greatest" "I") ∈ zT := zj_in2 (i := 135) rfl rfl
theorem zw_2_138 : (Jvm.Cond.fieldLink "RoadToPort$Tracker" (18 : Nat) "RoadToPort$Tracker" "seen" "[I") ∈ zT := zj_in2 (i := 136) rfl rfl
theorem zw_2_139 : (Jvm.Cond.fieldLink "RoadToPort$Tracker" (22 : Nat) "RoadToPort$Tracker" "marks" "[B") ∈ zT := zj_in2 (i := 137) rfl rfl
theorem zw_2_140 : (Jvm.Cond.lays "RoadToPort$Tracker" "RoadToPort$Tracker" "least" "I") ∈ zT := zj_in2 (i := 138) rfl rfl
theorem zw_2_142 : (Jvm.Cond.lays "RoadToPort$Tracker" "RoadToPort$Tracker" "greatest" "I") ∈ zT := zj_in2 (i := 140) rfl rfl
theorem zw_2_144 : (Jvm.Cond.laysFinal "RoadToPort$Tracker" "RoadToPort$Tracker" "seen" "[I") ∈ zT := zj_in2 (i := 142) rfl rfl
theorem zw_2_146 : (Jvm.Cond.laysFinal "RoadToPort$Tracker" "RoadToPort$Tracker" "marks" "[B") ∈ zT := zj_in2 (i := 144) rfl rfl
theorem zw_2_149 : (Jvm.Cond.fieldLink "RoadToPort" (10 : Nat) "RoadToPort" "reader" "LRoadToPort$Reader;") ∈ zT := zj_in2 (i := 147) rfl rfl
theorem zw_2_150 : (Jvm.Cond.fieldLink "RoadToPort" (19 : Nat) "RoadToPort" "country" "LRoadToPort$Land;") ∈ zT := zj_in2 (i := 148) rfl rfl
theorem zw_2_151 : (Jvm.Cond.fieldLink "RoadToPort" (23 : Nat) "RoadToPort" "spareCountry" "LRoadToPort$Land;") ∈ zT := zj_in2 (i := 149) rfl rfl
theorem zw_2_152 : (Jvm.Cond.fieldLink "RoadToPort" (29 : Nat) "RoadToPort" "folk" "LRoadToPort$Folk;") ∈ zT := zj_in2 (i := 150) rfl rfl
theorem zw_2_153 : (Jvm.Cond.fieldLink "RoadToPort" (33 : Nat) "RoadToPort" "trial" "LRoadToPort$Folk;") ∈ zT := zj_in2 (i := 151) rfl rfl
theorem zw_2_154 : (Jvm.Cond.fieldLink "RoadToPort" (39 : Nat) "RoadToPort" "phrase" "LRoadToPort$Phrase;") ∈ zT := zj_in2 (i := 152) rfl rfl
theorem zw_2_155 : (Jvm.Cond.fieldLink "RoadToPort" (43 : Nat) "RoadToPort" "sparePhrase" "LRoadToPort$Phrase;") ∈ zT := zj_in2 (i := 153) rfl rfl
theorem zw_2_156 : (Jvm.Cond.fieldLink "RoadToPort" (49 : Nat) "RoadToPort" "history" "LRoadToPort$History;") ∈ zT := zj_in2 (i := 154) rfl rfl
theorem zw_2_157 : (Jvm.Cond.fieldLink "RoadToPort" (53 : Nat) "RoadToPort" "keptCountries" "[LRoadToPort$Land;") ∈ zT := zj_in2 (i := 155) rfl rfl
theorem zw_2_158 : (Jvm.Cond.fieldLink "RoadToPort" (57 : Nat) "RoadToPort" "keptFolks" "[LRoadToPort$Folk;") ∈ zT := zj_in2 (i := 156) rfl rfl
theorem zw_2_159 : (Jvm.Cond.fieldLink "RoadToPort" (61 : Nat) "RoadToPort" "keptPhrases" "[LRoadToPort$Phrase;") ∈ zT := zj_in2 (i := 157) rfl rfl
theorem zw_2_160 : (Jvm.Cond.fieldLink "RoadToPort" (68 : Nat) "RoadToPort" "ledger" "LRoadToPort$Ledger;") ∈ zT := zj_in2 (i := 158) rfl rfl
theorem zw_2_161 : (Jvm.Cond.fieldLink "RoadToPort" (75 : Nat) "RoadToPort" "planner" "LRoadToPort$Planner;") ∈ zT := zj_in2 (i := 159) rfl rfl
theorem zw_2_162 : (Jvm.Cond.fieldLink "RoadToPort" (82 : Nat) "RoadToPort" "sender" "LRoadToPort$Sender;") ∈ zT := zj_in2 (i := 160) rfl rfl
theorem zw_2_163 : (Jvm.Cond.fieldLink "RoadToPort" (89 : Nat) "RoadToPort" "cutter" "LRoadToPort$Cutter;") ∈ zT := zj_in2 (i := 161) rfl rfl
theorem zw_2_164 : (Jvm.Cond.fieldLink "RoadToPort" (96 : Nat) "RoadToPort" "scribe" "LRoadToPort$Scribe;") ∈ zT := zj_in2 (i := 162) rfl rfl
theorem zw_2_165 : (Jvm.Cond.fieldLink "RoadToPort" (103 : Nat) "RoadToPort" "tracker" "LRoadToPort$Tracker;") ∈ zT := zj_in2 (i := 163) rfl rfl
theorem zw_2_166 : (Jvm.Cond.fieldLink "RoadToPort" (107 : Nat) "RoadToPort" "latestWay" "[I") ∈ zT := zj_in2 (i := 164) rfl rfl
theorem zw_2_167 : (Jvm.Cond.fieldLink "RoadToPort" (111 : Nat) "RoadToPort" "latestWayLength" "I") ∈ zT := zj_in2 (i := 165) rfl rfl
theorem zw_2_168 : (Jvm.Cond.laysFinal "RoadToPort" "RoadToPort" "reader" "LRoadToPort$Reader;") ∈ zT := zj_in2 (i := 166) rfl rfl
theorem zw_2_170 : (Jvm.Cond.lays "RoadToPort" "RoadToPort" "country" "LRoadToPort$Land;") ∈ zT := zj_in2 (i := 168) rfl rfl
theorem zw_2_172 : (Jvm.Cond.lays "RoadToPort" "RoadToPort" "spareCountry" "LRoadToPort$Land;") ∈ zT := zj_in2 (i := 170) rfl rfl
theorem zw_2_174 : (Jvm.Cond.laysFinal "RoadToPort" "RoadToPort" "folk" "LRoadToPort$Folk;") ∈ zT := zj_in2 (i := 172) rfl rfl
theorem zw_2_176 : (Jvm.Cond.laysFinal "RoadToPort" "RoadToPort" "trial" "LRoadToPort$Folk;") ∈ zT := zj_in2 (i := 174) rfl rfl
theorem zw_2_178 : (Jvm.Cond.lays "RoadToPort" "RoadToPort" "phrase" "LRoadToPort$Phrase;") ∈ zT := zj_in2 (i := 176) rfl rfl
theorem zw_2_180 : (Jvm.Cond.lays "RoadToPort" "RoadToPort" "sparePhrase" "LRoadToPort$Phrase;") ∈ zT := zj_in2 (i := 178) rfl rfl
theorem zw_2_182 : (Jvm.Cond.laysFinal "RoadToPort" "RoadToPort" "history" "LRoadToPort$History;") ∈ zT := zj_in2 (i := 180) rfl rfl
theorem zw_2_184 : (Jvm.Cond.laysFinal "RoadToPort" "RoadToPort" "keptCountries" "[LRoadToPort$Land;") ∈ zT := zj_in2 (i := 182) rfl rfl
theorem zw_2_186 : (Jvm.Cond.laysFinal "RoadToPort" "RoadToPort" "keptFolks" "[LRoadToPort$Folk;") ∈ zT := zj_in2 (i := 184) rfl rfl
theorem zw_2_188 : (Jvm.Cond.laysFinal "RoadToPort" "RoadToPort" "keptPhrases" "[LRoadToPort$Phrase;") ∈ zT := zj_in2 (i := 186) rfl rfl
theorem zw_2_190 : (Jvm.Cond.laysFinal "RoadToPort" "RoadToPort" "ledger" "LRoadToPort$Ledger;") ∈ zT := zj_in2 (i := 188) rfl rfl
theorem zw_2_192 : (Jvm.Cond.laysFinal "RoadToPort" "RoadToPort" "planner" "LRoadToPort$Planner;") ∈ zT := zj_in2 (i := 190) rfl rfl
theorem zw_2_194 : (Jvm.Cond.laysFinal "RoadToPort" "RoadToPort" "sender" "LRoadToPort$Sender;") ∈ zT := zj_in2 (i := 192) rfl rfl
theorem zw_2_196 : (Jvm.Cond.laysFinal "RoadToPort" "RoadToPort" "cutter" "LRoadToPort$Cutter;") ∈ zT := zj_in2 (i := 194) rfl rfl
theorem zw_2_198 : (Jvm.Cond.laysFinal "RoadToPort" "RoadToPort" "scribe" "LRoadToPort$Scribe;") ∈ zT := zj_in2 (i := 196) rfl rfl
theorem zw_2_200 : (Jvm.Cond.laysFinal "RoadToPort" "RoadToPort" "tracker" "LRoadToPort$Tracker;") ∈ zT := zj_in2 (i := 198) rfl rfl
theorem zw_2_202 : (Jvm.Cond.laysFinal "RoadToPort" "RoadToPort" "latestWay" "[I") ∈ zT := zj_in2 (i := 200) rfl rfl
theorem zw_2_204 : (Jvm.Cond.lays "RoadToPort" "RoadToPort" "latestWayLength" "I") ∈ zT := zj_in2 (i := 202) rfl rfl
theorem zw_2_207 : (Jvm.Cond.methodLink "RoadToPortLaw" (27 : Nat) ({ cls := "RoadToPort", name := "feed", desc := "(IIIII)I" } : Jvm.MethodName)) ∈ zT := zj_in2 (i := 205) rfl rfl
theorem zw_2_208 : (Jvm.Cond.instanceMethod ({ cls := "RoadToPort", name := "feed", desc := "(IIIII)I" } : Jvm.MethodName)) ∈ zT := zj_in2 (i := 206) rfl rfl
theorem zw_2_209 : (Jvm.Cond.selects "RoadToPort" ({ cls := "RoadToPort", name := "feed", desc := "(IIIII)I" } : Jvm.MethodName) ({ cls := "RoadToPort", name := "feed", desc := "(IIIII)I" } : Jvm.MethodName)) ∈ zT := zj_in2 (i := 207) rfl rfl
theorem zw_2_210 : (Jvm.Cond.code ({ cls := "RoadToPort", name := "feed", desc := "(IIIII)I" } : Jvm.MethodName) prog_1_method_2_code (6 : Nat) (Option.some Jvm.ClassFile.FieldType.int)) ∈ zT := zj_in2 (i := 208) rfl rfl
theorem zw_2_211 : (Jvm.Cond.methodLink "RoadToPort" (115 : Nat) ({ cls := "RoadToPort$Reader", name := "hasRoom", desc := "(I)Z" } : Jvm.MethodName)) ∈ zT := zj_in2 (i := 209) rfl rfl
theorem zw_2_212 : (Jvm.Cond.instanceMethod ({ cls := "RoadToPort$Reader", name := "hasRoom", desc := "(I)Z" } : Jvm.MethodName)) ∈ zT := zj_in2 (i := 210) rfl rfl
theorem zw_2_213 : (Jvm.Cond.selects "RoadToPort$Reader" ({ cls := "RoadToPort$Reader", name := "hasRoom", desc := "(I)Z" } : Jvm.MethodName) ({ cls := "RoadToPort$Reader", name := "hasRoom", desc := "(I)Z" } : Jvm.MethodName)) ∈ zT := zj_in2 (i := 211) rfl rfl
theorem zw_2_214 : (Jvm.Cond.code ({ cls := "RoadToPort$Reader", name := "hasRoom", desc := "(I)Z" } : Jvm.MethodName) prog_9_method_2_code (2 : Nat) (Option.some Jvm.ClassFile.FieldType.boolean)) ∈ zT := zj_in2 (i := 212) rfl rfl
theorem zw_2_215 : (Jvm.Cond.methodLink "RoadToPort" (119 : Nat) ({ cls := "RoadToPort$Reader", name := "take", desc := "(I)V" } : Jvm.MethodName)) ∈ zT := zj_in2 (i := 213) rfl rfl
theorem zw_2_216 : (Jvm.Cond.instanceMethod ({ cls := "RoadToPort$Reader", name := "take", desc := "(I)V" } : Jvm.MethodName)) ∈ zT := zj_in2 (i := 214) rfl rfl
theorem zw_2_217 : (Jvm.Cond.selects "RoadToPort$Reader" ({ cls := "RoadToPort$Reader", name := "take", desc := "(I)V" } : Jvm.MethodName) ({ cls := "RoadToPort$Reader", name := "take", desc := "(I)V" } : Jvm.MethodName)) ∈ zT := zj_in2 (i := 215) rfl rfl
theorem zw_2_218 : (Jvm.Cond.code ({ cls := "RoadToPort$Reader", name := "take", desc := "(I)V" } : Jvm.MethodName) prog_9_method_3_code (3 : Nat) (Option.none : Option Jvm.ClassFile.FieldType)) ∈ zT := zj_in2 (i := 216) rfl rfl
theorem zw_2_219 : (Jvm.Cond.methodLink "RoadToPortLaw" (32 : Nat) ({ cls := "RoadToPort", name := "end", desc := "(I)Z" } : Jvm.MethodName)) ∈ zT := zj_in2 (i := 217) rfl rfl
theorem zw_2_220 : (Jvm.Cond.instanceMethod ({ cls := "RoadToPort", name := "end", desc := "(I)Z" } : Jvm.MethodName)) ∈ zT := zj_in2 (i := 218) rfl rfl
theorem zw_2_221 : (Jvm.Cond.selects "RoadToPort" ({ cls := "RoadToPort", name := "end", desc := "(I)Z" } : Jvm.MethodName) ({ cls := "RoadToPort", name := "end", desc := "(I)Z" } : Jvm.MethodName)) ∈ zT := zj_in2 (i := 219) rfl rfl
theorem zw_2_222 : (Jvm.Cond.code ({ cls := "RoadToPort", name := "end", desc := "(I)Z" } : Jvm.MethodName) prog_1_method_3_code (2 : Nat) (Option.some Jvm.ClassFile.FieldType.boolean)) ∈ zT := zj_in2 (i := 220) rfl rfl
theorem zw_2_223 : (Jvm.Cond.methodLink "RoadToPortLaw" (37 : Nat) ({ cls := "RoadToPort", name := "land", desc := "()I" } : Jvm.MethodName)) ∈ zT := zj_in2 (i := 221) rfl rfl
theorem zw_2_224 : (Jvm.Cond.instanceMethod ({ cls := "RoadToPort", name := "land", desc := "()I" } : Jvm.MethodName)) ∈ zT := zj_in2 (i := 222) rfl rfl
theorem zw_2_225 : (Jvm.Cond.selects "RoadToPort" ({ cls := "RoadToPort", name := "land", desc := "()I" } : Jvm.MethodName) ({ cls := "RoadToPort", name := "land", desc := "()I" } : Jvm.MethodName)) ∈ zT := zj_in2 (i := 223) rfl rfl
theorem zw_2_226 : (Jvm.Cond.code ({ cls := "RoadToPort", name := "land", desc := "()I" } : Jvm.MethodName) prog_1_method_4_code (3 : Nat) (Option.some Jvm.ClassFile.FieldType.int)) ∈ zT := zj_in2 (i := 224) rfl rfl
theorem zw_2_227 : (Jvm.Cond.methodLink "RoadToPort" (126 : Nat) ({ cls := "RoadToPort$Land", name := "read", desc := "(LRoadToPort$Reader;)Z" } : Jvm.MethodName)) ∈ zT := zj_in2 (i := 225) rfl rfl
theorem zw_2_228 : (Jvm.Cond.instanceMethod ({ cls := "RoadToPort$Land", name := "read", desc := "(LRoadToPort$Reader;)Z" } : Jvm.MethodName)) ∈ zT := zj_in2 (i := 226) rfl rfl
theorem zw_2_229 : (Jvm.Cond.selects "RoadToPort$Land" ({ cls := "RoadToPort$Land", name := "read", desc := "(LRoadToPort$Reader;)Z" } : Jvm.MethodName) ({ cls := "RoadToPort$Land", name := "read", desc := "(LRoadToPort$Reader;)Z" } : Jvm.MethodName)) ∈ zT := zj_in2 (i := 227) rfl rfl
theorem zw_2_230 : (Jvm.Cond.code ({ cls := "RoadToPort$Land", name := "read", desc := "(LRoadToPort$Reader;)Z" } : Jvm.MethodName) prog_5_method_18_code (3 : Nat) (Option.some Jvm.ClassFile.FieldType.boolean)) ∈ zT := zj_in2 (i := 228) rfl rfl
theorem zw_2_231 : (Jvm.Cond.methodLink "RoadToPort$Land" (74 : Nat) ({ cls := "java/util/Arrays", name := "fill", desc := "([II)V" } : Jvm.MethodName)) ∈ zT := zj_in2 (i := 229) rfl rfl
theorem zw_2_232 : (Jvm.Cond.methodLink "RoadToPort$Land" (80 : Nat) ({ cls := "RoadToPort$Reader", name := "begin", desc := "(I)V" } : Jvm.MethodName)) ∈ zT := zj_in2 (i := 230) rfl rfl
theorem zw_2_233 : (Jvm.Cond.instanceMethod ({ cls := "RoadToPort$Reader", name := "begin", desc := "(I)V" } : Jvm.MethodName)) ∈ zT := zj_in2 (i := 231) rfl rfl
theorem zw_2_234 : (Jvm.Cond.selects "RoadToPort$Reader" ({ cls := "RoadToPort$Reader", name := "begin", desc := "(I)V" } : Jvm.MethodName) ({ cls := "RoadToPort$Reader", name := "begin", desc := "(I)V" } : Jvm.MethodName)) ∈ zT := zj_in2 (i := 232) rfl rfl
theorem zw_2_235 : (Jvm.Cond.code ({ cls := "RoadToPort$Reader", name := "begin", desc := "(I)V" } : Jvm.MethodName) prog_9_method_4_code (2 : Nat) (Option.none : Option Jvm.ClassFile.FieldType)) ∈ zT := zj_in2 (i := 233) rfl rfl
theorem zw_2_236 : (Jvm.Cond.methodLink "RoadToPort$Reader" (68 : Nat) ({ cls := "RoadToPort$Reader", name := "advance", desc := "()V" } : Jvm.MethodName)) ∈ zT := zj_in2 (i := 234) rfl rfl
theorem zw_2_237 : (Jvm.Cond.instanceMethod ({ cls := "RoadToPort$Reader", name := "advance", desc := "()V" } : Jvm.MethodName)) ∈ zT := zj_in2 (i := 235) rfl rfl
theorem zw_2_238 : (Jvm.Cond.selects "RoadToPort$Reader" ({ cls := "RoadToPort$Reader", name := "advance", desc := "()V" } : Jvm.MethodName) ({ cls := "RoadToPort$Reader", name := "advance", desc := "()V" } : Jvm.MethodName)) ∈ zT := zj_in2 (i := 236) rfl rfl
theorem zw_2_239 : (Jvm.Cond.code ({ cls := "RoadToPort$Reader", name := "advance", desc := "()V" } : Jvm.MethodName) prog_9_method_7_code (2 : Nat) (Option.none : Option Jvm.ClassFile.FieldType)) ∈ zT := zj_in2 (i := 237) rfl rfl
theorem zw_3_0 : (Jvm.Cond.methodLink "RoadToPort$Reader" (75 : Nat) ({ cls := "RoadToPort$Reader", name := "readRun", desc := "()V" } : Jvm.MethodName)) ∈ zT := zj_in2 (i := 238) rfl rfl
theorem zw_3_2 : (Jvm.Cond.instanceMethod ({ cls := "RoadToPort$Reader", name := "readRun", desc := "()V" } : Jvm.MethodName)) ∈ zT := zj_in3 (i := 0) rfl rfl
theorem zw_3_3 : (Jvm.Cond.code ({ cls := "RoadToPort$Reader", name := "readRun", desc := "()V" } : Jvm.MethodName) prog_9_method_8_code (4 : Nat) (Option.none : Option Jvm.ClassFile.FieldType)) ∈ zT := zj_in3 (i := 1) rfl rfl
theorem zw_3_4 : (Jvm.Cond.methodLink "RoadToPort$Land" (86 : Nat) ({ cls := "RoadToPort$Reader", name := "more", desc := "()Z" } : Jvm.MethodName)) ∈ zT := zj_in3 (i := 2) rfl rfl
theorem zw_3_5 : (Jvm.Cond.instanceMethod ({ cls := "RoadToPort$Reader", name := "more", desc := "()Z" } : Jvm.MethodName)) ∈ zT := zj_in3 (i := 3) rfl rfl
theorem zw_3_6 : (Jvm.Cond.selects "RoadToPort$Reader" ({ cls := "RoadToPort$Reader", name := "more", desc := "()Z" } : Jvm.MethodName) ({ cls := "RoadToPort$Reader", name := "more", desc := "()Z" } : Jvm.MethodName)) ∈ zT := zj_in3 (i := 4) rfl rfl
theorem zw_3_7 : (Jvm.Cond.code ({ cls := "RoadToPort$Reader", name := "more", desc := "()Z" } : Jvm.MethodName) prog_9_method_6_code (1 : Nat) (Option.some Jvm.ClassFile.FieldType.boolean)) ∈ zT := zj_in3 (i := 5) rfl rfl
theorem zw_3_8 : (Jvm.Cond.methodLink "RoadToPort$Reader" (71 : Nat) ({ cls := "RoadToPort$Reader", name := "fail", desc := "(I)V" } : Jvm.MethodName)) ∈ zT := zj_in3 (i := 6) rfl rfl
theorem zw_3_9 : (Jvm.Cond.instanceMethod ({ cls := "RoadToPort$Reader", name := "fail", desc := "(I)V" } : Jvm.MethodName)) ∈ zT := zj_in3 (i := 7) rfl rfl
theorem zw_3_10 : (Jvm.Cond.selects "RoadToPort$Reader" ({ cls := "RoadToPort$Reader", name := "fail", desc := "(I)V" } : Jvm.MethodName) ({ cls := "RoadToPort$Reader", name := "fail", desc := "(I)V" } : Jvm.MethodName)) ∈ zT := zj_in3 (i := 8) rfl rfl
theorem zw_3_11 : (Jvm.Cond.code ({ cls := "RoadToPort$Reader", name := "fail", desc := "(I)V" } : Jvm.MethodName) prog_9_method_5_code (2 : Nat) (Option.none : Option Jvm.ClassFile.FieldType)) ∈ zT := zj_in3 (i := 9) rfl rfl
theorem zw_3_12 : (Jvm.Cond.methodLink "RoadToPort$Land" (90 : Nat) ({ cls := "RoadToPort$Land", name := "readLine", desc := "(LRoadToPort$Reader;)V" } : Jvm.MethodName)) ∈ zT := zj_in3 (i := 10) rfl rfl
theorem zw_3_14 : (Jvm.Cond.instanceMethod ({ cls := "RoadToPort$Land", name := "readLine", desc := "(LRoadToPort$Reader;)V" } : Jvm.MethodName)) ∈ zT := zj_in3 (i := 12) rfl rfl
theorem zw_3_15 : (Jvm.Cond.code ({ cls := "RoadToPort$Land", name := "readLine", desc := "(LRoadToPort$Reader;)V" } : Jvm.MethodName) prog_5_method_19_code (2 : Nat) (Option.none : Option Jvm.ClassFile.FieldType)) ∈ zT := zj_in3 (i := 13) rfl rfl
theorem zw_3_16 : (Jvm.Cond.methodLink "RoadToPort$Land" (109 : Nat) ({ cls := "RoadToPort$Land", name := "readPlace", desc := "(LRoadToPort$Reader;)V" } : Jvm.MethodName)) ∈ zT := zj_in3 (i := 14) rfl rfl
theorem zw_3_18 : (Jvm.Cond.instanceMethod ({ cls := "RoadToPort$Land", name := "readPlace", desc := "(LRoadToPort$Reader;)V" } : Jvm.MethodName)) ∈ zT := zj_in3 (i := 16) rfl rfl
theorem zw_3_19 : (Jvm.Cond.code ({ cls := "RoadToPort$Land", name := "readPlace", desc := "(LRoadToPort$Reader;)V" } : Jvm.MethodName) prog_5_method_20_code (4 : Nat) (Option.none : Option Jvm.ClassFile.FieldType)) ∈ zT := zj_in3 (i := 17) rfl rfl
theorem zw_3_20 : (Jvm.Cond.methodLink "RoadToPort$Land" (121 : Nat) ({ cls := "RoadToPort$Reader", name := "fail", desc := "(I)V" } : Jvm.MethodName)) ∈ zT := zj_in3 (i := 18) rfl rfl
theorem zw_3_21 : (Jvm.Cond.methodLink "RoadToPort$Land" (124 : Nat) ({ cls := "RoadToPort$Reader", name := "advance", desc := "()V" } : Jvm.MethodName)) ∈ zT := zj_in3 (i := 19) rfl rfl
theorem zw_3_22 : (Jvm.Cond.methodLink "RoadToPort$Land" (127 : Nat) ({ cls := "RoadToPort$Land", name := "freshName", desc := "(LRoadToPort$Reader;)J" } : Jvm.MethodName)) ∈ zT := zj_in3 (i := 20) rfl rfl
theorem zw_3_24 : (Jvm.Cond.instanceMethod ({ cls := "RoadToPort$Land", name := "freshName", desc := "(LRoadToPort$Reader;)J" } : Jvm.MethodName)) ∈ zT := zj_in3 (i := 22) rfl rfl
theorem zw_3_25 : (Jvm.Cond.code ({ cls := "RoadToPort$Land", name := "freshName", desc := "(LRoadToPort$Reader;)J" } : Jvm.MethodName) prog_5_method_24_code (4 : Nat) (Option.some Jvm.ClassFile.FieldType.long)) ∈ zT := zj_in3 (i := 23) rfl rfl
theorem zw_3_26 : (Jvm.Cond.methodLink "RoadToPort$Land" (154 : Nat) ({ cls := "RoadToPort$Land", name := "placeNamed", desc := "(J)I" } : Jvm.MethodName)) ∈ zT := zj_in3 (i := 24) rfl rfl
theorem zw_3_27 : (Jvm.Cond.instanceMethod ({ cls := "RoadToPort$Land", name := "placeNamed", desc := "(J)I" } : Jvm.MethodName)) ∈ zT := zj_in3 (i := 25) rfl rfl
theorem zw_3_28 : (Jvm.Cond.selects "RoadToPort$Land" ({ cls := "RoadToPort$Land", name := "placeNamed", desc := "(J)I" } : Jvm.MethodName) ({ cls := "RoadToPort$Land", name := "placeNamed", desc := "(J)I" } : Jvm.MethodName)) ∈ zT := zj_in3 (i := 26) rfl rfl
theorem zw_3_29 : (Jvm.Cond.code ({ cls := "RoadToPort$Land", name := "placeNamed", desc := "(J)I" } : Jvm.MethodName) prog_5_method_16_code (4 : Nat) (Option.some Jvm.ClassFile.FieldType.int)) ∈ zT := zj_in3 (i := 27) rfl rfl
theorem zw_3_30 : (Jvm.Cond.methodLink "RoadToPort$Land" (158 : Nat) ({ cls := "RoadToPort$Land", name := "manNamed", desc := "(J)I" } : Jvm.MethodName)) ∈ zT := zj_in3 (i := 28) rfl rfl
theorem zw_3_31 : (Jvm.Cond.instanceMethod ({ cls := "RoadToPort$Land", name := "manNamed", desc := "(J)I" } : Jvm.MethodName)) ∈ zT := zj_in3 (i := 29) rfl rfl
theorem zw_3_32 : (Jvm.Cond.selects "RoadToPort$Land" ({ cls := "RoadToPort$Land", name := "manNamed", desc := "(J)I" } : Jvm.MethodName) ({ cls := "RoadToPort$Land", name := "manNamed", desc := "(J)I" } : Jvm.MethodName)) ∈ zT := zj_in3 (i := 30) rfl rfl
theorem zw_3_33 : (Jvm.Cond.code ({ cls := "RoadToPort$Land", name := "manNamed", desc := "(J)I" } : Jvm.MethodName) prog_5_method_17_code (4 : Nat) (Option.some Jvm.ClassFile.FieldType.int)) ∈ zT := zj_in3 (i := 31) rfl rfl
theorem zw_3_34 : (Jvm.Cond.methodLink "RoadToPort$Land" (131 : Nat) ({ cls := "RoadToPort$Reader", name := "number", desc := "(II)I" } : Jvm.MethodName)) ∈ zT := zj_in3 (i := 32) rfl rfl
theorem zw_3_35 : (Jvm.Cond.instanceMethod ({ cls := "RoadToPort$Reader", name := "number", desc := "(II)I" } : Jvm.MethodName)) ∈ zT := zj_in3 (i := 33) rfl rfl
theorem zw_3_36 : (Jvm.Cond.selects "RoadToPort$Reader" ({ cls := "RoadToPort$Reader", name := "number", desc := "(II)I" } : Jvm.MethodName) ({ cls := "RoadToPort$Reader", name := "number", desc := "(II)I" } : Jvm.MethodName)) ∈ zT := zj_in3 (i := 34) rfl rfl
theorem zw_3_37 : (Jvm.Cond.code ({ cls := "RoadToPort$Reader", name := "number", desc := "(II)I" } : Jvm.MethodName) prog_9_method_10_code (4 : Nat) (Option.some Jvm.ClassFile.FieldType.int)) ∈ zT := zj_in3 (i := 35) rfl rfl
theorem zw_3_38 : (Jvm.Cond.methodLink "RoadToPort$Land" (112 : Nat) ({ cls := "RoadToPort$Land", name := "readRoad", desc := "(LRoadToPort$Reader;)V" } : Jvm.MethodName)) ∈ zT := zj_in3 (i := 36) rfl rfl
theorem zw_3_40 : (Jvm.Cond.instanceMethod ({ cls := "RoadToPort$Land", name := "readRoad", desc := "(LRoadToPort$Reader;)V" } : Jvm.MethodName)) ∈ zT := zj_in3 (i := 38) rfl rfl
theorem zw_3_41 : (Jvm.Cond.code ({ cls := "RoadToPort$Land", name := "readRoad", desc := "(LRoadToPort$Reader;)V" } : Jvm.MethodName) prog_5_method_21_code (5 : Nat) (Option.none : Option Jvm.ClassFile.FieldType)) ∈ zT := zj_in3 (i := 39) rfl rfl
theorem zw_3_42 : (Jvm.Cond.methodLink "RoadToPort$Land" (134 : Nat) ({ cls := "RoadToPort$Land", name := "knownPlace", desc := "(LRoadToPort$Reader;)I" } : Jvm.MethodName)) ∈ zT := zj_in3 (i := 40) rfl rfl
theorem zw_3_43 : (Jvm.Cond.instanceMethod ({ cls := "RoadToPort$Land", name := "knownPlace", desc := "(LRoadToPort$Reader;)I" } : Jvm.MethodName)) ∈ zT := zj_in3 (i := 41) rfl rfl
theorem zw_3_44 : (Jvm.Cond.selects "RoadToPort$Land" ({ cls := "RoadToPort$Land", name := "knownPlace", desc := "(LRoadToPort$Reader;)I" } : Jvm.MethodName) ({ cls := "RoadToPort$Land", name := "knownPlace", desc := "(LRoadToPort$Reader;)I" } : Jvm.MethodName)) ∈ zT := zj_in3 (i := 42) rfl rfl
theorem zw_3_45 : (Jvm.Cond.code ({ cls := "RoadToPort$Land", name := "knownPlace", desc := "(LRoadToPort$Reader;)I" } : Jvm.MethodName) prog_5_method_25_code (3 : Nat) (Option.some Jvm.ClassFile.FieldType.int)) ∈ zT := zj_in3 (i := 43) rfl rfl
theorem zw_3_46 : (Jvm.Cond.methodLink "RoadToPort$Land" (138 : Nat) ({ cls := "RoadToPort$Land", name := "roadBetween", desc := "(II)I" } : Jvm.MethodName)) ∈ zT := zj_in3 (i := 44) rfl rfl
theorem zw_3_47 : (Jvm.Cond.instanceMethod ({ cls := "RoadToPort$Land", name := "roadBetween", desc := "(II)I" } : Jvm.MethodName)) ∈ zT := zj_in3 (i := 45) rfl rfl
theorem zw_3_48 : (Jvm.Cond.selects "RoadToPort$Land" ({ cls := "RoadToPort$Land", name := "roadBetween", desc := "(II)I" } : Jvm.MethodName) ({ cls := "RoadToPort$Land", name := "roadBetween", desc := "(II)I" } : Jvm.MethodName)) ∈ zT := zj_in3 (i := 46) rfl rfl
theorem zw_3_47n : (Jvm.Cond.code ({ cls := "RoadToPort$Land", name := "roadBetween", desc := "(II)I" } : Jvm.MethodName) prog_5_method_9_code (4 : Nat) (Option.some Jvm.ClassFile.FieldType.int)) ∈ zT := zj_in3 (i := 47) rfl rfl
theorem zw_3_50 : (Jvm.Cond.methodLink "RoadToPort$Land" (115 : Nat) ({ cls := "RoadToPort$Land", name := "readMan", desc := "(LRoadToPort$Reader;)V" } : Jvm.MethodName)) ∈ zT := zj_in3 (i := 48) rfl rfl
theorem zw_3_52 : (Jvm.Cond.instanceMethod ({ cls := "RoadToPort$Land", name := "readMan", desc := "(LRoadToPort$Reader;)V" } : Jvm.MethodName)) ∈ zT := zj_in3 (i := 50) rfl rfl
theorem zw_3_53 : (Jvm.Cond.code ({ cls := "RoadToPort$Land", name := "readMan", desc := "(LRoadToPort$Reader;)V" } : Jvm.MethodName) prog_5_method_22_code (4 : Nat) (Option.none : Option Jvm.ClassFile.FieldType)) ∈ zT := zj_in3 (i := 51) rfl rfl
theorem zw_3_54 : (Jvm.Cond.methodLink "RoadToPort$Land" (66 : Nat) ({ cls := "RoadToPort$Land", name := "ofPlace", desc := "(II)I" } : Jvm.MethodName)) ∈ zT := zj_in3 (i := 52) rfl rfl
theorem zw_3_55 : (Jvm.Cond.instanceMethod ({ cls := "RoadToPort$Land", name := "ofPlace", desc := "(II)I" } : Jvm.MethodName)) ∈ zT := zj_in3 (i := 53) rfl rfl
theorem zw_3_56 : (Jvm.Cond.selects "RoadToPort$Land" ({ cls := "RoadToPort$Land", name := "ofPlace", desc := "(II)I" } : Jvm.MethodName) ({ cls := "RoadToPort$Land", name := "ofPlace", desc := "(II)I" } : Jvm.MethodName)) ∈ zT := zj_in3 (i := 54) rfl rfl
theorem zw_3_55n : (Jvm.Cond.code ({ cls := "RoadToPort$Land", name := "ofPlace", desc := "(II)I" } : Jvm.MethodName) prog_5_method_6_code (4 : Nat) (Option.some Jvm.ClassFile.FieldType.int)) ∈ zT := zj_in3 (i := 55) rfl rfl
theorem zw_3_58 : (Jvm.Cond.methodLink "RoadToPort$Land" (118 : Nat) ({ cls := "RoadToPort$Land", name := "readKin", desc := "(LRoadToPort$Reader;)V" } : Jvm.MethodName)) ∈ zT := zj_in3 (i := 56) rfl rfl
theorem zw_3_60 : (Jvm.Cond.instanceMethod ({ cls := "RoadToPort$Land", name := "readKin", desc := "(LRoadToPort$Reader;)V" } : Jvm.MethodName)) ∈ zT := zj_in3 (i := 58) rfl rfl
theorem zw_3_61 : (Jvm.Cond.code ({ cls := "RoadToPort$Land", name := "readKin", desc := "(LRoadToPort$Reader;)V" } : Jvm.MethodName) prog_5_method_23_code (3 : Nat) (Option.none : Option Jvm.ClassFile.FieldType)) ∈ zT := zj_in3 (i := 59) rfl rfl
theorem zw_3_62 : (Jvm.Cond.methodLink "RoadToPort$Land" (141 : Nat) ({ cls := "RoadToPort$Land", name := "knownMan", desc := "(LRoadToPort$Reader;)I" } : Jvm.MethodName)) ∈ zT := zj_in3 (i := 60) rfl rfl
theorem zw_3_63 : (Jvm.Cond.instanceMethod ({ cls := "RoadToPort$Land", name := "knownMan", desc := "(LRoadToPort$Reader;)I" } : Jvm.MethodName)) ∈ zT := zj_in3 (i := 61) rfl rfl
theorem zw_3_64 : (Jvm.Cond.selects "RoadToPort$Land" ({ cls := "RoadToPort$Land", name := "knownMan", desc := "(LRoadToPort$Reader;)I" } : Jvm.MethodName) ({ cls := "RoadToPort$Land", name := "knownMan", desc := "(LRoadToPort$Reader;)I" } : Jvm.MethodName)) ∈ zT := zj_in3 (i := 62) rfl rfl
theorem zw_3_65 : (Jvm.Cond.code ({ cls := "RoadToPort$Land", name := "knownMan", desc := "(LRoadToPort$Reader;)I" } : Jvm.MethodName) prog_5_method_26_code (3 : Nat) (Option.some Jvm.ClassFile.FieldType.int)) ∈ zT := zj_in3 (i := 63) rfl rfl
theorem zw_3_66 : (Jvm.Cond.methodLink "RoadToPort$Land" (144 : Nat) ({ cls := "RoadToPort$Land", name := "ofMan", desc := "(II)I" } : Jvm.MethodName)) ∈ zT := zj_in3 (i := 64) rfl rfl
theorem zw_3_67 : (Jvm.Cond.instanceMethod ({ cls := "RoadToPort$Land", name := "ofMan", desc := "(II)I" } : Jvm.MethodName)) ∈ zT := zj_in3 (i := 65) rfl rfl
theorem zw_3_68 : (Jvm.Cond.selects "RoadToPort$Land" ({ cls := "RoadToPort$Land", name := "ofMan", desc := "(II)I" } : Jvm.MethodName) ({ cls := "RoadToPort$Land", name := "ofMan", desc := "(II)I" } : Jvm.MethodName)) ∈ zT := zj_in3 (i := 66) rfl rfl
theorem zw_3_67n : (Jvm.Cond.code ({ cls := "RoadToPort$Land", name := "ofMan", desc := "(II)I" } : Jvm.MethodName) prog_5_method_8_code (4 : Nat) (Option.some Jvm.ClassFile.FieldType.int)) ∈ zT := zj_in3 (i := 67) rfl rfl
theorem zw_3_70 : (Jvm.Cond.methodLink "RoadToPort$Land" (94 : Nat) ({ cls := "RoadToPort$Reader", name := "expect", desc := "(I)V" } : Jvm.MethodName)) ∈ zT := zj_in3 (i := 68) rfl rfl
theorem zw_3_71 : (Jvm.Cond.instanceMethod ({ cls := "RoadToPort$Reader", name := "expect", desc := "(I)V" } : Jvm.MethodName)) ∈ zT := zj_in3 (i := 69) rfl rfl
theorem zw_3_72 : (Jvm.Cond.selects "RoadToPort$Reader" ({ cls := "RoadToPort$Reader", name := "expect", desc := "(I)V" } : Jvm.MethodName) ({ cls := "RoadToPort$Reader", name := "expect", desc := "(I)V" } : Jvm.MethodName)) ∈ zT := zj_in3 (i := 70) rfl rfl
theorem zw_3_73 : (Jvm.Cond.code ({ cls := "RoadToPort$Reader", name := "expect", desc := "(I)V" } : Jvm.MethodName) prog_9_method_9_code (2 : Nat) (Option.none : Option Jvm.ClassFile.FieldType)) ∈ zT := zj_in3 (i := 71) rfl rfl
theorem zw_3_74 : (Jvm.Cond.methodLink "RoadToPort$Land" (100 : Nat) ({ cls := "RoadToPort$Land", name := "measure", desc := "()V" } : Jvm.MethodName)) ∈ zT := zj_in3 (i := 72) rfl rfl
theorem zw_3_76 : (Jvm.Cond.instanceMethod ({ cls := "RoadToPort$Land", name := "measure", desc := "()V" } : Jvm.MethodName)) ∈ zT := zj_in3 (i := 74) rfl rfl
theorem zw_3_77 : (Jvm.Cond.code ({ cls := "RoadToPort$Land", name := "measure", desc := "()V" } : Jvm.MethodName) prog_5_method_27_code (5 : Nat) (Option.none : Option Jvm.ClassFile.FieldType)) ∈ zT := zj_in3 (i := 75) rfl rfl
theorem zw_3_76n : (Jvm.Cond.constant "RoadToPort$Land" (73 : Nat) (100000 : Int32)) ∈ zT := zj_in3 (i := 76) rfl rfl
theorem zw_3_79 : (Jvm.Cond.methodLink "RoadToPort$Land" (161 : Nat) ({ cls := "RoadToPort$Land", name := "ofRoad", desc := "(II)I" } : Jvm.MethodName)) ∈ zT := zj_in3 (i := 77) rfl rfl
theorem zw_3_80 : (Jvm.Cond.instanceMethod ({ cls := "RoadToPort$Land", name := "ofRoad", desc := "(II)I" } : Jvm.MethodName)) ∈ zT := zj_in3 (i := 78) rfl rfl
theorem zw_3_81 : (Jvm.Cond.selects "RoadToPort$Land" ({ cls := "RoadToPort$Land", name := "ofRoad", desc := "(II)I" } : Jvm.MethodName) ({ cls := "RoadToPort$Land", name := "ofRoad", desc := "(II)I" } : Jvm.MethodName)) ∈ zT := zj_in3 (i := 79) rfl rfl
theorem zw_3_80n : (Jvm.Cond.code ({ cls := "RoadToPort$Land", name := "ofRoad", desc := "(II)I" } : Jvm.MethodName) prog_5_method_7_code (4 : Nat) (Option.some Jvm.ClassFile.FieldType.int)) ∈ zT := zj_in3 (i := 80) rfl rfl
theorem zw_3_83 : (Jvm.Cond.methodLink "RoadToPort$Land" (164 : Nat) ({ cls := "RoadToPort$Land", name := "joined", desc := "(II)Z" } : Jvm.MethodName)) ∈ zT := zj_in3 (i := 81) rfl rfl
theorem zw_3_84 : (Jvm.Cond.instanceMethod ({ cls := "RoadToPort$Land", name := "joined", desc := "(II)Z" } : Jvm.MethodName)) ∈ zT := zj_in3 (i := 82) rfl rfl
theorem zw_3_85 : (Jvm.Cond.selects "RoadToPort$Land" ({ cls := "RoadToPort$Land", name := "joined", desc := "(II)Z" } : Jvm.MethodName) ({ cls := "RoadToPort$Land", name := "joined", desc := "(II)Z" } : Jvm.MethodName)) ∈ zT := zj_in3 (i := 83) rfl rfl
theorem zw_3_86 : (Jvm.Cond.code ({ cls := "RoadToPort$Land", name := "joined", desc := "(II)Z" } : Jvm.MethodName) prog_5_method_10_code (3 : Nat) (Option.some Jvm.ClassFile.FieldType.boolean)) ∈ zT := zj_in3 (i := 84) rfl rfl
theorem zw_3_87 : (Jvm.Cond.methodLink "RoadToPort$Land" (70 : Nat) ({ cls := "RoadToPort$Land", name := "milesBetween", desc := "(II)I" } : Jvm.MethodName)) ∈ zT := zj_in3 (i := 85) rfl rfl
theorem zw_3_88 : (Jvm.Cond.instanceMethod ({ cls := "RoadToPort$Land", name := "milesBetween", desc := "(II)I" } : Jvm.MethodName)) ∈ zT := zj_in3 (i := 86) rfl rfl
theorem zw_3_89 : (Jvm.Cond.selects "RoadToPort$Land" ({ cls := "RoadToPort$Land", name := "milesBetween", desc := "(II)I" } : Jvm.MethodName) ({ cls := "RoadToPort$Land", name := "milesBetween", desc := "(II)I" } : Jvm.MethodName)) ∈ zT := zj_in3 (i := 87) rfl rfl
theorem zw_3_88n : (Jvm.Cond.code ({ cls := "RoadToPort$Land", name := "milesBetween", desc := "(II)I" } : Jvm.MethodName) prog_5_method_11_code (4 : Nat) (Option.some Jvm.ClassFile.FieldType.int)) ∈ zT := zj_in3 (i := 88) rfl rfl
theorem zw_3_91 : (Jvm.Cond.methodLink "RoadToPort$Land" (103 : Nat) ({ cls := "RoadToPort$Land", name := "findWays", desc := "()V" } : Jvm.MethodName)) ∈ zT := zj_in3 (i := 89) rfl rfl
theorem zw_3_93 : (Jvm.Cond.instanceMethod ({ cls := "RoadToPort$Land", name := "findWays", desc := "()V" } : Jvm.MethodName)) ∈ zT := zj_in3 (i := 91) rfl rfl
theorem zw_3_94 : (Jvm.Cond.code ({ cls := "RoadToPort$Land", name := "findWays", desc := "()V" } : Jvm.MethodName) prog_5_method_28_code (4 : Nat) (Option.none : Option Jvm.ClassFile.FieldType)) ∈ zT := zj_in3 (i := 92) rfl rfl
theorem zw_3_95 : (Jvm.Cond.methodLink "RoadToPort$Land" (168 : Nat) ({ cls := "RoadToPort$Land", name := "firstStep", desc := "(II)I" } : Jvm.MethodName)) ∈ zT := zj_in3 (i := 93) rfl rfl
theorem zw_3_97 : (Jvm.Cond.instanceMethod ({ cls := "RoadToPort$Land", name := "firstStep", desc := "(II)I" } : Jvm.MethodName)) ∈ zT := zj_in3 (i := 95) rfl rfl
theorem zw_3_98 : (Jvm.Cond.code ({ cls := "RoadToPort$Land", name := "firstStep", desc := "(II)I" } : Jvm.MethodName) prog_5_method_29_code (5 : Nat) (Option.some Jvm.ClassFile.FieldType.int)) ∈ zT := zj_in3 (i := 96) rfl rfl
theorem zw_3_99 : (Jvm.Cond.methodLink "RoadToPort" (133 : Nat) ({ cls := "RoadToPort$Folk", name := "settle", desc := "(LRoadToPort$Land;)V" } : Jvm.MethodName)) ∈ zT := zj_in3 (i := 97) rfl rfl
theorem zw_3_100 : (Jvm.Cond.instanceMethod ({ cls := "RoadToPort$Folk", name := "settle", desc := "(LRoadToPort$Land;)V" } : Jvm.MethodName)) ∈ zT := zj_in3 (i := 98) rfl rfl
theorem zw_3_101 : (Jvm.Cond.selects "RoadToPort$Folk" ({ cls := "RoadToPort$Folk", name := "settle", desc := "(LRoadToPort$Land;)V" } : Jvm.MethodName) ({ cls := "RoadToPort$Folk", name := "settle", desc := "(LRoadToPort$Land;)V" } : Jvm.MethodName)) ∈ zT := zj_in3 (i := 99) rfl rfl
theorem zw_3_102 : (Jvm.Cond.code ({ cls := "RoadToPort$Folk", name := "settle", desc := "(LRoadToPort$Land;)V" } : Jvm.MethodName) prog_3_method_3_code (3 : Nat) (Option.none : Option Jvm.ClassFile.FieldType)) ∈ zT := zj_in3 (i := 100) rfl rfl
theorem zw_3_103 : (Jvm.Cond.methodLink "RoadToPort$Folk" (28 : Nat) ({ cls := "java/util/Arrays", name := "fill", desc := "([II)V" } : Jvm.MethodName)) ∈ zT := zj_in3 (i := 101) rfl rfl
theorem zw_3_104 : (Jvm.Cond.methodLink "RoadToPort$Folk" (39 : Nat) ({ cls := "RoadToPort$Folk", name := "put", desc := "(III)V" } : Jvm.MethodName)) ∈ zT := zj_in3 (i := 102) rfl rfl
theorem zw_3_106 : (Jvm.Cond.instanceMethod ({ cls := "RoadToPort$Folk", name := "put", desc := "(III)V" } : Jvm.MethodName)) ∈ zT := zj_in3 (i := 104) rfl rfl
theorem zw_3_105 : (Jvm.Cond.code ({ cls := "RoadToPort$Folk", name := "put", desc := "(III)V" } : Jvm.MethodName) prog_3_method_6_code (5 : Nat) (Option.none : Option Jvm.ClassFile.FieldType)) ∈ zT := zj_in3 (i := 105) rfl rfl
theorem zw_3_108 : (Jvm.Cond.methodLink "RoadToPort$Folk" (43 : Nat) ({ cls := "RoadToPort$Land", name := "ofMan", desc := "(II)I" } : Jvm.MethodName)) ∈ zT := zj_in3 (i := 106) rfl rfl
theorem zw_3_109 : (Jvm.Cond.methodLink "RoadToPort" (137 : Nat) ({ cls := "RoadToPort$Phrase", name := "clear", desc := "()V" } : Jvm.MethodName)) ∈ zT := zj_in3 (i := 107) rfl rfl
theorem zw_3_110 : (Jvm.Cond.instanceMethod ({ cls := "RoadToPort$Phrase", name := "clear", desc := "()V" } : Jvm.MethodName)) ∈ zT := zj_in3 (i := 108) rfl rfl
theorem zw_3_111 : (Jvm.Cond.selects "RoadToPort$Phrase" ({ cls := "RoadToPort$Phrase", name := "clear", desc := "()V" } : Jvm.MethodName) ({ cls := "RoadToPort$Phrase", name := "clear", desc := "()V" } : Jvm.MethodName)) ∈ zT := zj_in3 (i := 109) rfl rfl
theorem zw_3_112 : (Jvm.Cond.code ({ cls := "RoadToPort$Phrase", name := "clear", desc := "()V" } : Jvm.MethodName) prog_7_method_2_code (1 : Nat) (Option.none : Option Jvm.ClassFile.FieldType)) ∈ zT := zj_in3 (i := 110) rfl rfl
theorem zw_3_113 : (Jvm.Cond.methodLink "RoadToPort" (140 : Nat) ({ cls := "RoadToPort$History", name := "clear", desc := "()V" } : Jvm.MethodName)) ∈ zT := zj_in3 (i := 111) rfl rfl
theorem zw_3_114 : (Jvm.Cond.instanceMethod ({ cls := "RoadToPort$History", name := "clear", desc := "()V" } : Jvm.MethodName)) ∈ zT := zj_in3 (i := 112) rfl rfl
theorem zw_3_115 : (Jvm.Cond.selects "RoadToPort$History" ({ cls := "RoadToPort$History", name := "clear", desc := "()V" } : Jvm.MethodName) ({ cls := "RoadToPort$History", name := "clear", desc := "()V" } : Jvm.MethodName)) ∈ zT := zj_in3 (i := 113) rfl rfl
theorem zw_3_116 : (Jvm.Cond.code ({ cls := "RoadToPort$History", name := "clear", desc := "()V" } : Jvm.MethodName) prog_4_method_2_code (1 : Nat) (Option.none : Option Jvm.ClassFile.FieldType)) ∈ zT := zj_in3 (i := 114) rfl rfl
theorem zw_3_117 : (Jvm.Cond.methodLink "RoadToPortLaw" (42 : Nat) ({ cls := "RoadToPort", name := "fault", desc := "()I" } : Jvm.MethodName)) ∈ zT := zj_in3 (i := 115) rfl rfl
theorem zw_3_118 : (Jvm.Cond.instanceMethod ({ cls := "RoadToPort", name := "fault", desc := "()I" } : Jvm.MethodName)) ∈ zT := zj_in3 (i := 116) rfl rfl
theorem zw_3_119 : (Jvm.Cond.selects "RoadToPort" ({ cls := "RoadToPort", name := "fault", desc := "()I" } : Jvm.MethodName) ({ cls := "RoadToPort", name := "fault", desc := "()I" } : Jvm.MethodName)) ∈ zT := zj_in3 (i := 117) rfl rfl
theorem zw_3_120 : (Jvm.Cond.code ({ cls := "RoadToPort", name := "fault", desc := "()I" } : Jvm.MethodName) prog_1_method_5_code (1 : Nat) (Option.some Jvm.ClassFile.FieldType.int)) ∈ zT := zj_in3 (i := 118) rfl rfl
theorem zw_3_121 : (Jvm.Cond.methodLink "RoadToPortLaw" (191 : Nat) ({ cls := "RoadToPort", name := "count", desc := "(I)I" } : Jvm.MethodName)) ∈ zT := zj_in3 (i := 119) rfl rfl
theorem zw_3_122 : (Jvm.Cond.instanceMethod ({ cls := "RoadToPort", name := "count", desc := "(I)I" } : Jvm.MethodName)) ∈ zT := zj_in3 (i := 120) rfl rfl
theorem zw_3_123 : (Jvm.Cond.selects "RoadToPort" ({ cls := "RoadToPort", name := "count", desc := "(I)I" } : Jvm.MethodName) ({ cls := "RoadToPort", name := "count", desc := "(I)I" } : Jvm.MethodName)) ∈ zT := zj_in3 (i := 121) rfl rfl
theorem zw_3_124 : (Jvm.Cond.code ({ cls := "RoadToPort", name := "count", desc := "(I)I" } : Jvm.MethodName) prog_1_method_6_code (2 : Nat) (Option.some Jvm.ClassFile.FieldType.int)) ∈ zT := zj_in3 (i := 122) rfl rfl
theorem zw_3_125 : (Jvm.Cond.methodLink "RoadToPortLaw" (46 : Nat) ({ cls := "RoadToPort", name := "place", desc := "(II)I" } : Jvm.MethodName)) ∈ zT := zj_in3 (i := 123) rfl rfl
theorem zw_3_126 : (Jvm.Cond.instanceMethod ({ cls := "RoadToPort", name := "place", desc := "(II)I" } : Jvm.MethodName)) ∈ zT := zj_in3 (i := 124) rfl rfl
theorem zw_3_127 : (Jvm.Cond.selects "RoadToPort" ({ cls := "RoadToPort", name := "place", desc := "(II)I" } : Jvm.MethodName) ({ cls := "RoadToPort", name := "place", desc := "(II)I" } : Jvm.MethodName)) ∈ zT := zj_in3 (i := 125) rfl rfl
theorem zw_3_128 : (Jvm.Cond.code ({ cls := "RoadToPort", name := "place", desc := "(II)I" } : Jvm.MethodName) prog_1_method_7_code (3 : Nat) (Option.some Jvm.ClassFile.FieldType.int)) ∈ zT := zj_in3 (i := 126) rfl rfl
theorem zw_3_129 : (Jvm.Cond.methodLink "RoadToPort" (159 : Nat) ({ cls := "RoadToPort$Land", name := "hasPlace", desc := "(I)Z" } : Jvm.MethodName)) ∈ zT := zj_in3 (i := 127) rfl rfl
theorem zw_3_130 : (Jvm.Cond.instanceMethod ({ cls := "RoadToPort$Land", name := "hasPlace", desc := "(I)Z" } : Jvm.MethodName)) ∈ zT := zj_in3 (i := 128) rfl rfl
theorem zw_3_131 : (Jvm.Cond.selects "RoadToPort$Land" ({ cls := "RoadToPort$Land", name := "hasPlace", desc := "(I)Z" } : Jvm.MethodName) ({ cls := "RoadToPort$Land", name := "hasPlace", desc := "(I)Z" } : Jvm.MethodName)) ∈ zT := zj_in3 (i := 129) rfl rfl
theorem zw_3_132 : (Jvm.Cond.code ({ cls := "RoadToPort$Land", name := "hasPlace", desc := "(I)Z" } : Jvm.MethodName) prog_5_method_3_code (2 : Nat) (Option.some Jvm.ClassFile.FieldType.boolean)) ∈ zT := zj_in3 (i := 130) rfl rfl
theorem zw_3_133 : (Jvm.Cond.methodLink "RoadToPort" (162 : Nat) ({ cls := "RoadToPort$Folk", name := "menAt", desc := "(II)I" } : Jvm.MethodName)) ∈ zT := zj_in3 (i := 131) rfl rfl
theorem zw_3_134 : (Jvm.Cond.instanceMethod ({ cls := "RoadToPort$Folk", name := "menAt", desc := "(II)I" } : Jvm.MethodName)) ∈ zT := zj_in3 (i := 132) rfl rfl
theorem zw_3_135 : (Jvm.Cond.selects "RoadToPort$Folk" ({ cls := "RoadToPort$Folk", name := "menAt", desc := "(II)I" } : Jvm.MethodName) ({ cls := "RoadToPort$Folk", name := "menAt", desc := "(II)I" } : Jvm.MethodName)) ∈ zT := zj_in3 (i := 133) rfl rfl
theorem zw_3_136 : (Jvm.Cond.code ({ cls := "RoadToPort$Folk", name := "menAt", desc := "(II)I" } : Jvm.MethodName) prog_3_method_11_code (5 : Nat) (Option.some Jvm.ClassFile.FieldType.int)) ∈ zT := zj_in3 (i := 134) rfl rfl
theorem zw_3_137 : (Jvm.Cond.methodLink "RoadToPort$Folk" (53 : Nat) ({ cls := "RoadToPort$Folk", name := "isJustAt", desc := "(II)Z" } : Jvm.MethodName)) ∈ zT := zj_in3 (i := 135) rfl rfl
theorem zw_3_138 : (Jvm.Cond.instanceMethod ({ cls := "RoadToPort$Folk", name := "isJustAt", desc := "(II)Z" } : Jvm.MethodName)) ∈ zT := zj_in3 (i := 136) rfl rfl
theorem zw_3_139 : (Jvm.Cond.selects "RoadToPort$Folk" ({ cls := "RoadToPort$Folk", name := "isJustAt", desc := "(II)Z" } : Jvm.MethodName) ({ cls := "RoadToPort$Folk", name := "isJustAt", desc := "(II)Z" } : Jvm.MethodName)) ∈ zT := zj_in3 (i := 137) rfl rfl
theorem zw_3_140 : (Jvm.Cond.code ({ cls := "RoadToPort$Folk", name := "isJustAt", desc := "(II)Z" } : Jvm.MethodName) prog_3_method_10_code (3 : Nat) (Option.some Jvm.ClassFile.FieldType.boolean)) ∈ zT := zj_in3 (i := 138) rfl rfl
theorem zw_3_141 : (Jvm.Cond.methodLink "RoadToPort$Folk" (47 : Nat) ({ cls := "RoadToPort$Folk", name := "of", desc := "(II)I" } : Jvm.MethodName)) ∈ zT := zj_in3 (i := 139) rfl rfl
theorem zw_3_142 : (Jvm.Cond.instanceMethod ({ cls := "RoadToPort$Folk", name := "of", desc := "(II)I" } : Jvm.MethodName)) ∈ zT := zj_in3 (i := 140) rfl rfl
theorem zw_3_143 : (Jvm.Cond.selects "RoadToPort$Folk" ({ cls := "RoadToPort$Folk", name := "of", desc := "(II)I" } : Jvm.MethodName) ({ cls := "RoadToPort$Folk", name := "of", desc := "(II)I" } : Jvm.MethodName)) ∈ zT := zj_in3 (i := 141) rfl rfl
theorem zw_3_142n : (Jvm.Cond.code ({ cls := "RoadToPort$Folk", name := "of", desc := "(II)I" } : Jvm.MethodName) prog_3_method_5_code (4 : Nat) (Option.some Jvm.ClassFile.FieldType.int)) ∈ zT := zj_in3 (i := 142) rfl rfl
theorem zw_3_145 : (Jvm.Cond.methodLink "RoadToPort" (166 : Nat) ({ cls := "RoadToPort$Land", name := "ofPlace", desc := "(II)I" } : Jvm.MethodName)) ∈ zT := zj_in3 (i := 143) rfl rfl
theorem zw_3_146 : (Jvm.Cond.methodLink "RoadToPortLaw" (50 : Nat) ({ cls := "RoadToPort", name := "road", desc := "(III)I" } : Jvm.MethodName)) ∈ zT := zj_in3 (i := 144) rfl rfl
theorem zw_3_147 : (Jvm.Cond.instanceMethod ({ cls := "RoadToPort", name := "road", desc := "(III)I" } : Jvm.MethodName)) ∈ zT := zj_in3 (i := 145) rfl rfl
theorem zw_3_148 : (Jvm.Cond.selects "RoadToPort" ({ cls := "RoadToPort", name := "road", desc := "(III)I" } : Jvm.MethodName) ({ cls := "RoadToPort", name := "road", desc := "(III)I" } : Jvm.MethodName)) ∈ zT := zj_in3 (i := 146) rfl rfl
theorem zw_3_149 : (Jvm.Cond.code ({ cls := "RoadToPort", name := "road", desc := "(III)I" } : Jvm.MethodName) prog_1_method_8_code (5 : Nat) (Option.some Jvm.ClassFile.FieldType.int)) ∈ zT := zj_in3 (i := 147) rfl rfl
theorem zw_3_150 : (Jvm.Cond.methodLink "RoadToPort" (169 : Nat) ({ cls := "RoadToPort$Land", name := "roadBetween", desc := "(II)I" } : Jvm.MethodName)) ∈ zT := zj_in3 (i := 148) rfl rfl
theorem zw_3_151 : (Jvm.Cond.methodLink "RoadToPort" (172 : Nat) ({ cls := "RoadToPort$Land", name := "ofRoad", desc := "(II)I" } : Jvm.MethodName)) ∈ zT := zj_in3 (i := 149) rfl rfl
theorem zw_3_152 : (Jvm.Cond.methodLink "RoadToPortLaw" (63 : Nat) ({ cls := "RoadToPort", name := "now", desc := "(I)I" } : Jvm.MethodName)) ∈ zT := zj_in3 (i := 150) rfl rfl
theorem zw_3_153 : (Jvm.Cond.instanceMethod ({ cls := "RoadToPort", name := "now", desc := "(I)I" } : Jvm.MethodName)) ∈ zT := zj_in3 (i := 151) rfl rfl
theorem zw_3_154 : (Jvm.Cond.selects "RoadToPort" ({ cls := "RoadToPort", name := "now", desc := "(I)I" } : Jvm.MethodName) ({ cls := "RoadToPort", name := "now", desc := "(I)I" } : Jvm.MethodName)) ∈ zT := zj_in3 (i := 152) rfl rfl
theorem zw_3_155 : (Jvm.Cond.code ({ cls := "RoadToPort", name := "now", desc := "(I)I" } : Jvm.MethodName) prog_1_method_10_code (2 : Nat) (Option.some Jvm.ClassFile.FieldType.int)) ∈ zT := zj_in3 (i := 153) rfl rfl
theorem zw_3_156 : (Jvm.Cond.methodLink "RoadToPort" (195 : Nat) ({ cls := "RoadToPort$Folk", name := "today", desc := "()I" } : Jvm.MethodName)) ∈ zT := zj_in3 (i := 154) rfl rfl
theorem zw_3_157 : (Jvm.Cond.instanceMethod ({ cls := "RoadToPort$Folk", name := "today", desc := "()I" } : Jvm.MethodName)) ∈ zT := zj_in3 (i := 155) rfl rfl
theorem zw_3_158 : (Jvm.Cond.selects "RoadToPort$Folk" ({ cls := "RoadToPort$Folk", name := "today", desc := "()I" } : Jvm.MethodName) ({ cls := "RoadToPort$Folk", name := "today", desc := "()I" } : Jvm.MethodName)) ∈ zT := zj_in3 (i := 156) rfl rfl
theorem zw_3_159 : (Jvm.Cond.code ({ cls := "RoadToPort$Folk", name := "today", desc := "()I" } : Jvm.MethodName) prog_3_method_4_code (1 : Nat) (Option.some Jvm.ClassFile.FieldType.int)) ∈ zT := zj_in3 (i := 157) rfl rfl
theorem zw_3_160 : (Jvm.Cond.methodLink "RoadToPort" (199 : Nat) ({ cls := "RoadToPort$Folk", name := "menWho", desc := "(II)I" } : Jvm.MethodName)) ∈ zT := zj_in3 (i := 158) rfl rfl
theorem zw_3_161 : (Jvm.Cond.instanceMethod ({ cls := "RoadToPort$Folk", name := "menWho", desc := "(II)I" } : Jvm.MethodName)) ∈ zT := zj_in3 (i := 159) rfl rfl
theorem zw_3_162 : (Jvm.Cond.selects "RoadToPort$Folk" ({ cls := "RoadToPort$Folk", name := "menWho", desc := "(II)I" } : Jvm.MethodName) ({ cls := "RoadToPort$Folk", name := "menWho", desc := "(II)I" } : Jvm.MethodName)) ∈ zT := zj_in3 (i := 160) rfl rfl
theorem zw_3_163 : (Jvm.Cond.code ({ cls := "RoadToPort$Folk", name := "menWho", desc := "(II)I" } : Jvm.MethodName) prog_3_method_12_code (5 : Nat) (Option.some Jvm.ClassFile.FieldType.int)) ∈ zT := zj_in3 (i := 161) rfl rfl
theorem zw_3_164 : (Jvm.Cond.methodLink "RoadToPortLaw" (68 : Nat) ({ cls := "RoadToPort", name := "swear", desc := "(III)I" } : Jvm.MethodName)) ∈ zT := zj_in3 (i := 162) rfl rfl
theorem zw_3_165 : (Jvm.Cond.instanceMethod ({ cls := "RoadToPort", name := "swear", desc := "(III)I" } : Jvm.MethodName)) ∈ zT := zj_in3 (i := 163) rfl rfl
theorem zw_3_166 : (Jvm.Cond.selects "RoadToPort" ({ cls := "RoadToPort", name := "swear", desc := "(III)I" } : Jvm.MethodName) ({ cls := "RoadToPort", name := "swear", desc := "(III)I" } : Jvm.MethodName)) ∈ zT := zj_in3 (i := 164) rfl rfl
theorem zw_3_167 : (Jvm.Cond.code ({ cls := "RoadToPort", name := "swear", desc := "(III)I" } : Jvm.MethodName) prog_1_method_11_code (4 : Nat) (Option.some Jvm.ClassFile.FieldType.int)) ∈ zT := zj_in3 (i := 165) rfl rfl
theorem zw_3_168 : (Jvm.Cond.methodLink "RoadToPort" (175 : Nat) ({ cls := "RoadToPort$Land", name := "hasMan", desc := "(I)Z" } : Jvm.MethodName)) ∈ zT := zj_in3 (i := 166) rfl rfl
theorem zw_3_169 : (Jvm.Cond.instanceMethod ({ cls := "RoadToPort$Land", name := "hasMan", desc := "(I)Z" } : Jvm.MethodName)) ∈ zT := zj_in3 (i := 167) rfl rfl
theorem zw_3_170 : (Jvm.Cond.selects "RoadToPort$Land" ({ cls := "RoadToPort$Land", name := "hasMan", desc := "(I)Z" } : Jvm.MethodName) ({ cls := "RoadToPort$Land", name := "hasMan", desc := "(I)Z" } : Jvm.MethodName)) ∈ zT := zj_in3 (i := 168) rfl rfl
theorem zw_3_171 : (Jvm.Cond.code ({ cls := "RoadToPort$Land", name := "hasMan", desc := "(I)Z" } : Jvm.MethodName) prog_5_method_4_code (2 : Nat) (Option.some Jvm.ClassFile.FieldType.boolean)) ∈ zT := zj_in3 (i := 169) rfl rfl
theorem zw_3_172 : (Jvm.Cond.methodLink "RoadToPort" (202 : Nat) ({ cls := "RoadToPort$Land", name := "isPort", desc := "(I)Z" } : Jvm.MethodName)) ∈ zT := zj_in3 (i := 170) rfl rfl
theorem zw_3_173 : (Jvm.Cond.instanceMethod ({ cls := "RoadToPort$Land", name := "isPort", desc := "(I)Z" } : Jvm.MethodName)) ∈ zT := zj_in3 (i := 171) rfl rfl
theorem zw_3_174 : (Jvm.Cond.selects "RoadToPort$Land" ({ cls := "RoadToPort$Land", name := "isPort", desc := "(I)Z" } : Jvm.MethodName) ({ cls := "RoadToPort$Land", name := "isPort", desc := "(I)Z" } : Jvm.MethodName)) ∈ zT := zj_in3 (i := 172) rfl rfl
theorem zw_3_175 : (Jvm.Cond.code ({ cls := "RoadToPort$Land", name := "isPort", desc := "(I)Z" } : Jvm.MethodName) prog_5_method_5_code (2 : Nat) (Option.some Jvm.ClassFile.FieldType.boolean)) ∈ zT := zj_in3 (i := 173) rfl rfl
theorem zw_3_176 : (Jvm.Cond.methodLink "RoadToPort$Land" (62 : Nat) ({ cls := "RoadToPort$Land", name := "hasPlace", desc := "(I)Z" } : Jvm.MethodName)) ∈ zT := zj_in3 (i := 174) rfl rfl
theorem zw_3_177 : (Jvm.Cond.methodLink "RoadToPort" (205 : Nat) ({ cls := "RoadToPort$Folk", name := "copy", desc := "(LRoadToPort$Folk;)V" } : Jvm.MethodName)) ∈ zT := zj_in3 (i := 175) rfl rfl
theorem zw_3_178 : (Jvm.Cond.instanceMethod ({ cls := "RoadToPort$Folk", name := "copy", desc := "(LRoadToPort$Folk;)V" } : Jvm.MethodName)) ∈ zT := zj_in3 (i := 176) rfl rfl
theorem zw_3_179 : (Jvm.Cond.selects "RoadToPort$Folk" ({ cls := "RoadToPort$Folk", name := "copy", desc := "(LRoadToPort$Folk;)V" } : Jvm.MethodName) ({ cls := "RoadToPort$Folk", name := "copy", desc := "(LRoadToPort$Folk;)V" } : Jvm.MethodName)) ∈ zT := zj_in3 (i := 177) rfl rfl
theorem zw_3_180 : (Jvm.Cond.code ({ cls := "RoadToPort$Folk", name := "copy", desc := "(LRoadToPort$Folk;)V" } : Jvm.MethodName) prog_3_method_2_code (2 : Nat) (Option.none : Option Jvm.ClassFile.FieldType)) ∈ zT := zj_in3 (i := 178) rfl rfl
theorem zw_3_181 : (Jvm.Cond.methodLink "RoadToPort$Folk" (22 : Nat) ({ cls := "java/lang/System", name := "arraycopy", desc := "(Ljava/lang/Object;ILjava/lang/Object;II)V" } : Jvm.MethodName)) ∈ zT := zj_in3 (i := 179) rfl rfl
theorem zw_3_182 : (Jvm.Cond.static ({ cls := "java/lang/System", name := "arraycopy", desc := "(Ljava/lang/Object;ILjava/lang/Object;II)V" } : Jvm.MethodName)) ∈ zT := zj_in3 (i := 180) rfl rfl
theorem zw_3_183 : (Jvm.Cond.native ({ cls := "java/lang/System", name := "arraycopy", desc := "(Ljava/lang/Object;ILjava/lang/Object;II)V" } : Jvm.MethodName)) ∈ zT := zj_in3 (i := 181) rfl rfl
theorem zw_3_184 : (Jvm.Cond.methodLink "RoadToPort" (209 : Nat) ({ cls := "RoadToPort$Folk", name := "swears", desc := "(LRoadToPort$Land;III)I" } : Jvm.MethodName)) ∈ zT := zj_in3 (i := 182) rfl rfl
theorem zw_3_185 : (Jvm.Cond.instanceMethod ({ cls := "RoadToPort$Folk", name := "swears", desc := "(LRoadToPort$Land;III)I" } : Jvm.MethodName)) ∈ zT := zj_in3 (i := 183) rfl rfl
theorem zw_3_186 : (Jvm.Cond.selects "RoadToPort$Folk" ({ cls := "RoadToPort$Folk", name := "swears", desc := "(LRoadToPort$Land;III)I" } : Jvm.MethodName) ({ cls := "RoadToPort$Folk", name := "swears", desc := "(LRoadToPort$Land;III)I" } : Jvm.MethodName)) ∈ zT := zj_in3 (i := 184) rfl rfl
theorem zw_3_187 : (Jvm.Cond.code ({ cls := "RoadToPort$Folk", name := "swears", desc := "(LRoadToPort$Land;III)I" } : Jvm.MethodName) prog_3_method_13_code (5 : Nat) (Option.some Jvm.ClassFile.FieldType.int)) ∈ zT := zj_in3 (i := 185) rfl rfl
theorem zw_3_188 : (Jvm.Cond.methodLink "RoadToPort$Folk" (57 : Nat) ({ cls := "RoadToPort$Land", name := "joined", desc := "(II)Z" } : Jvm.MethodName)) ∈ zT := zj_in3 (i := 186) rfl rfl
theorem zw_3_189 : (Jvm.Cond.methodLink "RoadToPort$Folk" (60 : Nat) ({ cls := "RoadToPort$Folk", name := "more", desc := "(III)V" } : Jvm.MethodName)) ∈ zT := zj_in3 (i := 187) rfl rfl
theorem zw_3_191 : (Jvm.Cond.instanceMethod ({ cls := "RoadToPort$Folk", name := "more", desc := "(III)V" } : Jvm.MethodName)) ∈ zT := zj_in3 (i := 189) rfl rfl
theorem zw_3_190 : (Jvm.Cond.code ({ cls := "RoadToPort$Folk", name := "more", desc := "(III)V" } : Jvm.MethodName) prog_3_method_7_code (5 : Nat) (Option.none : Option Jvm.ClassFile.FieldType)) ∈ zT := zj_in3 (i := 190) rfl rfl
theorem zw_3_193 : (Jvm.Cond.methodLink "RoadToPort" (213 : Nat) ({ cls := "RoadToPort", name := "keptIfDone", desc := "(I)I" } : Jvm.MethodName)) ∈ zT := zj_in3 (i := 191) rfl rfl
theorem zw_3_195 : (Jvm.Cond.instanceMethod ({ cls := "RoadToPort", name := "keptIfDone", desc := "(I)I" } : Jvm.MethodName)) ∈ zT := zj_in3 (i := 193) rfl rfl
theorem zw_3_196 : (Jvm.Cond.code ({ cls := "RoadToPort", name := "keptIfDone", desc := "(I)I" } : Jvm.MethodName) prog_1_method_17_code (2 : Nat) (Option.some Jvm.ClassFile.FieldType.int)) ∈ zT := zj_in3 (i := 194) rfl rfl
theorem zw_3_197 : (Jvm.Cond.methodLink "RoadToPort" (232 : Nat) ({ cls := "RoadToPort$History", name := "keep", desc := "(LRoadToPort$Folk;)V" } : Jvm.MethodName)) ∈ zT := zj_in3 (i := 195) rfl rfl
theorem zw_3_198 : (Jvm.Cond.instanceMethod ({ cls := "RoadToPort$History", name := "keep", desc := "(LRoadToPort$Folk;)V" } : Jvm.MethodName)) ∈ zT := zj_in3 (i := 196) rfl rfl
theorem zw_3_199 : (Jvm.Cond.selects "RoadToPort$History" ({ cls := "RoadToPort$History", name := "keep", desc := "(LRoadToPort$Folk;)V" } : Jvm.MethodName) ({ cls := "RoadToPort$History", name := "keep", desc := "(LRoadToPort$Folk;)V" } : Jvm.MethodName)) ∈ zT := zj_in3 (i := 197) rfl rfl
theorem zw_3_200 : (Jvm.Cond.code ({ cls := "RoadToPort$History", name := "keep", desc := "(LRoadToPort$Folk;)V" } : Jvm.MethodName) prog_4_method_3_code (2 : Nat) (Option.none : Option Jvm.ClassFile.FieldType)) ∈ zT := zj_in3 (i := 198) rfl rfl
theorem zw_3_201 : (Jvm.Cond.methodLink "RoadToPort$History" (25 : Nat) ({ cls := "RoadToPort$Folk", name := "copy", desc := "(LRoadToPort$Folk;)V" } : Jvm.MethodName)) ∈ zT := zj_in3 (i := 199) rfl rfl
theorem zw_3_202 : (Jvm.Cond.methodLink "RoadToPortLaw" (72 : Nat) ({ cls := "RoadToPort", name := "order", desc := "(II)I" } : Jvm.MethodName)) ∈ zT := zj_in3 (i := 200) rfl rfl
theorem zw_3_203 : (Jvm.Cond.instanceMethod ({ cls := "RoadToPort", name := "order", desc := "(II)I" } : Jvm.MethodName)) ∈ zT := zj_in3 (i := 201) rfl rfl
theorem zw_3_204 : (Jvm.Cond.selects "RoadToPort" ({ cls := "RoadToPort", name := "order", desc := "(II)I" } : Jvm.MethodName) ({ cls := "RoadToPort", name := "order", desc := "(II)I" } : Jvm.MethodName)) ∈ zT := zj_in3 (i := 202) rfl rfl
theorem zw_3_205 : (Jvm.Cond.code ({ cls := "RoadToPort", name := "order", desc := "(II)I" } : Jvm.MethodName) prog_1_method_12_code (3 : Nat) (Option.some Jvm.ClassFile.FieldType.int)) ∈ zT := zj_in3 (i := 203) rfl rfl
theorem zw_3_206 : (Jvm.Cond.methodLink "RoadToPort" (216 : Nat) ({ cls := "RoadToPort$Folk", name := "orders", desc := "(LRoadToPort$Land;II)I" } : Jvm.MethodName)) ∈ zT := zj_in3 (i := 204) rfl rfl
theorem zw_3_207 : (Jvm.Cond.instanceMethod ({ cls := "RoadToPort$Folk", name := "orders", desc := "(LRoadToPort$Land;II)I" } : Jvm.MethodName)) ∈ zT := zj_in3 (i := 205) rfl rfl
theorem zw_3_208 : (Jvm.Cond.selects "RoadToPort$Folk" ({ cls := "RoadToPort$Folk", name := "orders", desc := "(LRoadToPort$Land;II)I" } : Jvm.MethodName) ({ cls := "RoadToPort$Folk", name := "orders", desc := "(LRoadToPort$Land;II)I" } : Jvm.MethodName)) ∈ zT := zj_in3 (i := 206) rfl rfl
theorem zw_3_209 : (Jvm.Cond.code ({ cls := "RoadToPort$Folk", name := "orders", desc := "(LRoadToPort$Land;II)I" } : Jvm.MethodName) prog_3_method_14_code (4 : Nat) (Option.some Jvm.ClassFile.FieldType.int)) ∈ zT := zj_in3 (i := 207) rfl rfl
theorem zw_3_210 : (Jvm.Cond.methodLink "RoadToPortLaw" (76 : Nat) ({ cls := "RoadToPort", name := "slip", desc := "(I)I" } : Jvm.MethodName)) ∈ zT := zj_in3 (i := 208) rfl rfl
theorem zw_3_211 : (Jvm.Cond.instanceMethod ({ cls := "RoadToPort", name := "slip", desc := "(I)I" } : Jvm.MethodName)) ∈ zT := zj_in3 (i := 209) rfl rfl
theorem zw_3_212 : (Jvm.Cond.selects "RoadToPort" ({ cls := "RoadToPort", name := "slip", desc := "(I)I" } : Jvm.MethodName) ({ cls := "RoadToPort", name := "slip", desc := "(I)I" } : Jvm.MethodName)) ∈ zT := zj_in3 (i := 210) rfl rfl
theorem zw_3_213 : (Jvm.Cond.code ({ cls := "RoadToPort", name := "slip", desc := "(I)I" } : Jvm.MethodName) prog_1_method_13_code (2 : Nat) (Option.some Jvm.ClassFile.FieldType.int)) ∈ zT := zj_in3 (i := 211) rfl rfl
theorem zw_3_214 : (Jvm.Cond.methodLink "RoadToPort" (220 : Nat) ({ cls := "RoadToPort$Folk", name := "slips", desc := "(I)I" } : Jvm.MethodName)) ∈ zT := zj_in3 (i := 212) rfl rfl
theorem zw_3_215 : (Jvm.Cond.instanceMethod ({ cls := "RoadToPort$Folk", name := "slips", desc := "(I)I" } : Jvm.MethodName)) ∈ zT := zj_in3 (i := 213) rfl rfl
theorem zw_3_216 : (Jvm.Cond.selects "RoadToPort$Folk" ({ cls := "RoadToPort$Folk", name := "slips", desc := "(I)I" } : Jvm.MethodName) ({ cls := "RoadToPort$Folk", name := "slips", desc := "(I)I" } : Jvm.MethodName)) ∈ zT := zj_in3 (i := 214) rfl rfl
theorem zw_3_217 : (Jvm.Cond.code ({ cls := "RoadToPort$Folk", name := "slips", desc := "(I)I" } : Jvm.MethodName) prog_3_method_15_code (2 : Nat) (Option.some Jvm.ClassFile.FieldType.int)) ∈ zT := zj_in3 (i := 215) rfl rfl
theorem zw_3_218 : (Jvm.Cond.methodLink "RoadToPortLaw" (80 : Nat) ({ cls := "RoadToPort", name := "enter", desc := "(I)I" } : Jvm.MethodName)) ∈ zT := zj_in3 (i := 216) rfl rfl
theorem zw_3_219 : (Jvm.Cond.instanceMethod ({ cls := "RoadToPort", name := "enter", desc := "(I)I" } : Jvm.MethodName)) ∈ zT := zj_in3 (i := 217) rfl rfl
theorem zw_3_220 : (Jvm.Cond.selects "RoadToPort" ({ cls := "RoadToPort", name := "enter", desc := "(I)I" } : Jvm.MethodName) ({ cls := "RoadToPort", name := "enter", desc := "(I)I" } : Jvm.MethodName)) ∈ zT := zj_in3 (i := 218) rfl rfl
theorem zw_3_221 : (Jvm.Cond.code ({ cls := "RoadToPort", name := "enter", desc := "(I)I" } : Jvm.MethodName) prog_1_method_14_code (2 : Nat) (Option.some Jvm.ClassFile.FieldType.int)) ∈ zT := zj_in3 (i := 219) rfl rfl
theorem zw_3_222 : (Jvm.Cond.methodLink "RoadToPort" (223 : Nat) ({ cls := "RoadToPort$Folk", name := "enters", desc := "(LRoadToPort$Land;I)I" } : Jvm.MethodName)) ∈ zT := zj_in3 (i := 220) rfl rfl
theorem zw_3_223 : (Jvm.Cond.instanceMethod ({ cls := "RoadToPort$Folk", name := "enters", desc := "(LRoadToPort$Land;I)I" } : Jvm.MethodName)) ∈ zT := zj_in3 (i := 221) rfl rfl
theorem zw_3_224 : (Jvm.Cond.selects "RoadToPort$Folk" ({ cls := "RoadToPort$Folk", name := "enters", desc := "(LRoadToPort$Land;I)I" } : Jvm.MethodName) ({ cls := "RoadToPort$Folk", name := "enters", desc := "(LRoadToPort$Land;I)I" } : Jvm.MethodName)) ∈ zT := zj_in3 (i := 222) rfl rfl
theorem zw_3_225 : (Jvm.Cond.code ({ cls := "RoadToPort$Folk", name := "enters", desc := "(LRoadToPort$Land;I)I" } : Jvm.MethodName) prog_3_method_16_code (4 : Nat) (Option.some Jvm.ClassFile.FieldType.int)) ∈ zT := zj_in3 (i := 223) rfl rfl
theorem zw_3_226 : (Jvm.Cond.methodLink "RoadToPort$Folk" (63 : Nat) ({ cls := "RoadToPort$Land", name := "ofPlace", desc := "(II)I" } : Jvm.MethodName)) ∈ zT := zj_in3 (i := 224) rfl rfl
theorem zw_3_227 : (Jvm.Cond.methodLink "RoadToPortLaw" (84 : Nat) ({ cls := "RoadToPort", name := "get", desc := "(II)I" } : Jvm.MethodName)) ∈ zT := zj_in3 (i := 225) rfl rfl
theorem zw_3_228 : (Jvm.Cond.instanceMethod ({ cls := "RoadToPort", name := "get", desc := "(II)I" } : Jvm.MethodName)) ∈ zT := zj_in3 (i := 226) rfl rfl
theorem zw_3_229 : (Jvm.Cond.selects "RoadToPort" ({ cls := "RoadToPort", name := "get", desc := "(II)I" } : Jvm.MethodName) ({ cls := "RoadToPort", name := "get", desc := "(II)I" } : Jvm.MethodName)) ∈ zT := zj_in3 (i := 227) rfl rfl
theorem zw_3_230 : (Jvm.Cond.code ({ cls := "RoadToPort", name := "get", desc := "(II)I" } : Jvm.MethodName) prog_1_method_15_code (3 : Nat) (Option.some Jvm.ClassFile.FieldType.int)) ∈ zT := zj_in3 (i := 228) rfl rfl
theorem zw_3_231 : (Jvm.Cond.methodLink "RoadToPort" (226 : Nat) ({ cls := "RoadToPort$Folk", name := "gets", desc := "(II)I" } : Jvm.MethodName)) ∈ zT := zj_in3 (i := 229) rfl rfl
theorem zw_3_232 : (Jvm.Cond.instanceMethod ({ cls := "RoadToPort$Folk", name := "gets", desc := "(II)I" } : Jvm.MethodName)) ∈ zT := zj_in3 (i := 230) rfl rfl
theorem zw_3_233 : (Jvm.Cond.selects "RoadToPort$Folk" ({ cls := "RoadToPort$Folk", name := "gets", desc := "(II)I" } : Jvm.MethodName) ({ cls := "RoadToPort$Folk", name := "gets", desc := "(II)I" } : Jvm.MethodName)) ∈ zT := zj_in3 (i := 231) rfl rfl
theorem zw_3_234 : (Jvm.Cond.code ({ cls := "RoadToPort$Folk", name := "gets", desc := "(II)I" } : Jvm.MethodName) prog_3_method_17_code (3 : Nat) (Option.some Jvm.ClassFile.FieldType.int)) ∈ zT := zj_in3 (i := 232) rfl rfl
theorem zw_3_235 : (Jvm.Cond.methodLink "RoadToPort$Folk" (66 : Nat) ({ cls := "java/lang/Math", name := "min", desc := "(II)I" } : Jvm.MethodName)) ∈ zT := zj_in3 (i := 233) rfl rfl
theorem zw_3_236 : (Jvm.Cond.static ({ cls := "java/lang/Math", name := "min", desc := "(II)I" } : Jvm.MethodName)) ∈ zT := zj_in3 (i := 234) rfl rfl
theorem zw_3_237 : (Jvm.Cond.code ({ cls := "java/lang/Math", name := "min", desc := "(II)I" } : Jvm.MethodName) prog_20_method_69_code (2 : Nat) (Option.some Jvm.ClassFile.FieldType.int)) ∈ zT := zj_in3 (i := 235) rfl rfl
theorem zw_3_238 : (Jvm.Cond.methodLink "RoadToPortLaw" (88 : Nat) ({ cls := "RoadToPort", name := "days", desc := "(II)I" } : Jvm.MethodName)) ∈ zT := zj_in3 (i := 236) rfl rfl
theorem zw_3_239 : (Jvm.Cond.instanceMethod ({ cls := "RoadToPort", name := "days", desc := "(II)I" } : Jvm.MethodName)) ∈ zT := zj_in3 (i := 237) rfl rfl
theorem zw_4_0 : (Jvm.Cond.selects "RoadToPort" ({ cls := "RoadToPort", name := "days", desc := "(II)I" } : Jvm.MethodName) ({ cls := "RoadToPort", name := "days", desc := "(II)I" } : Jvm.MethodName)) ∈ zT := zj_in3 (i := 238) rfl rfl
theorem zw_4_1 : (Jvm.Cond.code ({ cls := "RoadToPort", name := "days", desc := "(II)I" } : Jvm.MethodName) prog_1_method_16_code (4 : Nat) (Option.some Jvm.ClassFile.FieldType.int)) ∈ zT := zj_in3 (i := 239) rfl rfl
theorem zw_4_2 : (Jvm.Cond.methodLink "RoadToPort" (229 : Nat) ({ cls := "RoadToPort$Folk", name := "goDays", desc := "(LRoadToPort$Land;II)I" } : Jvm.MethodName)) ∈ zT := zj_in4 (i := 0) rfl rfl
theorem zw_4_3 : (Jvm.Cond.instanceMethod ({ cls := "RoadToPort$Folk", name := "goDays", desc := "(LRoadToPort$Land;II)I" } : Jvm.MethodName)) ∈ zT := zj_in4 (i := 1) rfl rfl
theorem zw_4_4 : (Jvm.Cond.selects "RoadToPort$Folk" ({ cls := "RoadToPort$Folk", name := "goDays", desc := "(LRoadToPort$Land;II)I" } : Jvm.MethodName) ({ cls := "RoadToPort$Folk", name := "goDays", desc := "(LRoadToPort$Land;II)I" } : Jvm.MethodName)) ∈ zT := zj_in4 (i := 2) rfl rfl
theorem zw_4_5 : (Jvm.Cond.code ({ cls := "RoadToPort$Folk", name := "goDays", desc := "(LRoadToPort$Land;II)I" } : Jvm.MethodName) prog_3_method_19_code (6 : Nat) (Option.some Jvm.ClassFile.FieldType.int)) ∈ zT := zj_in4 (i := 3) rfl rfl
theorem zw_4_6 : (Jvm.Cond.methodLink "RoadToPort$Folk" (71 : Nat) ({ cls := "RoadToPort$Folk", name := "daysToCome", desc := "()I" } : Jvm.MethodName)) ∈ zT := zj_in4 (i := 4) rfl rfl
theorem zw_4_7 : (Jvm.Cond.instanceMethod ({ cls := "RoadToPort$Folk", name := "daysToCome", desc := "()I" } : Jvm.MethodName)) ∈ zT := zj_in4 (i := 5) rfl rfl
theorem zw_4_8 : (Jvm.Cond.selects "RoadToPort$Folk" ({ cls := "RoadToPort$Folk", name := "daysToCome", desc := "()I" } : Jvm.MethodName) ({ cls := "RoadToPort$Folk", name := "daysToCome", desc := "()I" } : Jvm.MethodName)) ∈ zT := zj_in4 (i := 6) rfl rfl
theorem zw_4_9 : (Jvm.Cond.code ({ cls := "RoadToPort$Folk", name := "daysToCome", desc := "()I" } : Jvm.MethodName) prog_3_method_18_code (1 : Nat) (Option.some Jvm.ClassFile.FieldType.int)) ∈ zT := zj_in4 (i := 7) rfl rfl
theorem zw_4_10 : (Jvm.Cond.methodLink "RoadToPort$Folk" (75 : Nat) ({ cls := "RoadToPort$Folk", name := "goDay", desc := "(LRoadToPort$Land;)V" } : Jvm.MethodName)) ∈ zT := zj_in4 (i := 8) rfl rfl
theorem zw_4_12 : (Jvm.Cond.instanceMethod ({ cls := "RoadToPort$Folk", name := "goDay", desc := "(LRoadToPort$Land;)V" } : Jvm.MethodName)) ∈ zT := zj_in4 (i := 10) rfl rfl
theorem zw_4_13 : (Jvm.Cond.code ({ cls := "RoadToPort$Folk", name := "goDay", desc := "(LRoadToPort$Land;)V" } : Jvm.MethodName) prog_3_method_22_code (3 : Nat) (Option.none : Option Jvm.ClassFile.FieldType)) ∈ zT := zj_in4 (i := 11) rfl rfl
theorem zw_4_14 : (Jvm.Cond.methodLink "RoadToPort$Folk" (80 : Nat) ({ cls := "RoadToPort$Folk", name := "waitForShip", desc := "(LRoadToPort$Land;I)V" } : Jvm.MethodName)) ∈ zT := zj_in4 (i := 12) rfl rfl
theorem zw_4_16 : (Jvm.Cond.instanceMethod ({ cls := "RoadToPort$Folk", name := "waitForShip", desc := "(LRoadToPort$Land;I)V" } : Jvm.MethodName)) ∈ zT := zj_in4 (i := 14) rfl rfl
theorem zw_4_17 : (Jvm.Cond.code ({ cls := "RoadToPort$Folk", name := "waitForShip", desc := "(LRoadToPort$Land;I)V" } : Jvm.MethodName) prog_3_method_23_code (6 : Nat) (Option.none : Option Jvm.ClassFile.FieldType)) ∈ zT := zj_in4 (i := 15) rfl rfl
theorem zw_4_18 : (Jvm.Cond.methodLink "RoadToPort$Folk" (87 : Nat) ({ cls := "RoadToPort$Folk", name := "draw", desc := "(I)I" } : Jvm.MethodName)) ∈ zT := zj_in4 (i := 16) rfl rfl
theorem zw_4_20 : (Jvm.Cond.instanceMethod ({ cls := "RoadToPort$Folk", name := "draw", desc := "(I)I" } : Jvm.MethodName)) ∈ zT := zj_in4 (i := 18) rfl rfl
theorem zw_4_21 : (Jvm.Cond.code ({ cls := "RoadToPort$Folk", name := "draw", desc := "(I)I" } : Jvm.MethodName) prog_3_method_21_code (2 : Nat) (Option.some Jvm.ClassFile.FieldType.int)) ∈ zT := zj_in4 (i := 19) rfl rfl
theorem zw_4_22 : (Jvm.Cond.constant "RoadToPort$Folk" (79 : Nat) (1103515245 : Int32)) ∈ zT := zj_in4 (i := 20) rfl rfl
theorem zw_4_23 : (Jvm.Cond.methodLink "RoadToPort$Folk" (84 : Nat) ({ cls := "RoadToPort$Folk", name := "walk", desc := "(LRoadToPort$Land;I)V" } : Jvm.MethodName)) ∈ zT := zj_in4 (i := 21) rfl rfl
theorem zw_4_25 : (Jvm.Cond.instanceMethod ({ cls := "RoadToPort$Folk", name := "walk", desc := "(LRoadToPort$Land;I)V" } : Jvm.MethodName)) ∈ zT := zj_in4 (i := 23) rfl rfl
theorem zw_4_26 : (Jvm.Cond.code ({ cls := "RoadToPort$Folk", name := "walk", desc := "(LRoadToPort$Land;I)V" } : Jvm.MethodName) prog_3_method_24_code (5 : Nat) (Option.none : Option Jvm.ClassFile.FieldType)) ∈ zT := zj_in4 (i := 24) rfl rfl
theorem zw_4_27 : (Jvm.Cond.methodLink "RoadToPort$Folk" (91 : Nat) ({ cls := "RoadToPort$Folk", name := "allMiles", desc := "(LRoadToPort$Land;I)I" } : Jvm.MethodName)) ∈ zT := zj_in4 (i := 25) rfl rfl
theorem zw_4_28 : (Jvm.Cond.instanceMethod ({ cls := "RoadToPort$Folk", name := "allMiles", desc := "(LRoadToPort$Land;I)I" } : Jvm.MethodName)) ∈ zT := zj_in4 (i := 26) rfl rfl
theorem zw_4_29 : (Jvm.Cond.selects "RoadToPort$Folk" ({ cls := "RoadToPort$Folk", name := "allMiles", desc := "(LRoadToPort$Land;I)I" } : Jvm.MethodName) ({ cls := "RoadToPort$Folk", name := "allMiles", desc := "(LRoadToPort$Land;I)I" } : Jvm.MethodName)) ∈ zT := zj_in4 (i := 27) rfl rfl
theorem zw_4_30 : (Jvm.Cond.code ({ cls := "RoadToPort$Folk", name := "allMiles", desc := "(LRoadToPort$Land;I)I" } : Jvm.MethodName) prog_3_method_8_code (3 : Nat) (Option.some Jvm.ClassFile.FieldType.int)) ∈ zT := zj_in4 (i := 28) rfl rfl
theorem zw_4_31 : (Jvm.Cond.methodLink "RoadToPort$Folk" (50 : Nat) ({ cls := "RoadToPort$Land", name := "milesBetween", desc := "(II)I" } : Jvm.MethodName)) ∈ zT := zj_in4 (i := 29) rfl rfl
theorem zw_4_32 : (Jvm.Cond.methodLink "RoadToPort$Folk" (95 : Nat) ({ cls := "RoadToPort$Folk", name := "meetsFord", desc := "(LRoadToPort$Land;II)Z" } : Jvm.MethodName)) ∈ zT := zj_in4 (i := 30) rfl rfl
theorem zw_4_34 : (Jvm.Cond.instanceMethod ({ cls := "RoadToPort$Folk", name := "meetsFord", desc := "(LRoadToPort$Land;II)Z" } : Jvm.MethodName)) ∈ zT := zj_in4 (i := 32) rfl rfl
theorem zw_4_35 : (Jvm.Cond.code ({ cls := "RoadToPort$Folk", name := "meetsFord", desc := "(LRoadToPort$Land;II)Z" } : Jvm.MethodName) prog_3_method_26_code (9 : Nat) (Option.some Jvm.ClassFile.FieldType.boolean)) ∈ zT := zj_in4 (i := 33) rfl rfl
theorem zw_4_36 : (Jvm.Cond.methodLink "RoadToPort$Folk" (107 : Nat) ({ cls := "RoadToPort$Land", name := "roadToward", desc := "(II)I" } : Jvm.MethodName)) ∈ zT := zj_in4 (i := 34) rfl rfl
theorem zw_4_37 : (Jvm.Cond.instanceMethod ({ cls := "RoadToPort$Land", name := "roadToward", desc := "(II)I" } : Jvm.MethodName)) ∈ zT := zj_in4 (i := 35) rfl rfl
theorem zw_4_38 : (Jvm.Cond.selects "RoadToPort$Land" ({ cls := "RoadToPort$Land", name := "roadToward", desc := "(II)I" } : Jvm.MethodName) ({ cls := "RoadToPort$Land", name := "roadToward", desc := "(II)I" } : Jvm.MethodName)) ∈ zT := zj_in4 (i := 36) rfl rfl
theorem zw_4_37n : (Jvm.Cond.code ({ cls := "RoadToPort$Land", name := "roadToward", desc := "(II)I" } : Jvm.MethodName) prog_5_method_13_code (4 : Nat) (Option.some Jvm.ClassFile.FieldType.int)) ∈ zT := zj_in4 (i := 37) rfl rfl
theorem zw_4_40 : (Jvm.Cond.methodLink "RoadToPort$Folk" (110 : Nat) ({ cls := "RoadToPort$Land", name := "ofRoad", desc := "(II)I" } : Jvm.MethodName)) ∈ zT := zj_in4 (i := 38) rfl rfl
theorem zw_4_41 : (Jvm.Cond.methodLink "RoadToPort$Folk" (113 : Nat) ({ cls := "RoadToPort$Land", name := "nextTo", desc := "(II)I" } : Jvm.MethodName)) ∈ zT := zj_in4 (i := 39) rfl rfl
theorem zw_4_42 : (Jvm.Cond.instanceMethod ({ cls := "RoadToPort$Land", name := "nextTo", desc := "(II)I" } : Jvm.MethodName)) ∈ zT := zj_in4 (i := 40) rfl rfl
theorem zw_4_43 : (Jvm.Cond.selects "RoadToPort$Land" ({ cls := "RoadToPort$Land", name := "nextTo", desc := "(II)I" } : Jvm.MethodName) ({ cls := "RoadToPort$Land", name := "nextTo", desc := "(II)I" } : Jvm.MethodName)) ∈ zT := zj_in4 (i := 41) rfl rfl
theorem zw_4_42n : (Jvm.Cond.code ({ cls := "RoadToPort$Land", name := "nextTo", desc := "(II)I" } : Jvm.MethodName) prog_5_method_12_code (4 : Nat) (Option.some Jvm.ClassFile.FieldType.int)) ∈ zT := zj_in4 (i := 42) rfl rfl
theorem zw_4_45 : (Jvm.Cond.methodLink "RoadToPort$Folk" (99 : Nat) ({ cls := "RoadToPort$Folk", name := "step", desc := "(LRoadToPort$Land;II)V" } : Jvm.MethodName)) ∈ zT := zj_in4 (i := 43) rfl rfl
theorem zw_4_47 : (Jvm.Cond.instanceMethod ({ cls := "RoadToPort$Folk", name := "step", desc := "(LRoadToPort$Land;II)V" } : Jvm.MethodName)) ∈ zT := zj_in4 (i := 45) rfl rfl
theorem zw_4_48 : (Jvm.Cond.code ({ cls := "RoadToPort$Folk", name := "step", desc := "(LRoadToPort$Land;II)V" } : Jvm.MethodName) prog_3_method_27_code (9 : Nat) (Option.none : Option Jvm.ClassFile.FieldType)) ∈ zT := zj_in4 (i := 46) rfl rfl
theorem zw_4_49 : (Jvm.Cond.methodLink "RoadToPort$Folk" (103 : Nat) ({ cls := "RoadToPort$Folk", name := "dangerFor", desc := "(LRoadToPort$Land;II)I" } : Jvm.MethodName)) ∈ zT := zj_in4 (i := 47) rfl rfl
theorem zw_4_50 : (Jvm.Cond.instanceMethod ({ cls := "RoadToPort$Folk", name := "dangerFor", desc := "(LRoadToPort$Land;II)I" } : Jvm.MethodName)) ∈ zT := zj_in4 (i := 48) rfl rfl
theorem zw_4_51 : (Jvm.Cond.selects "RoadToPort$Folk" ({ cls := "RoadToPort$Folk", name := "dangerFor", desc := "(LRoadToPort$Land;II)I" } : Jvm.MethodName) ({ cls := "RoadToPort$Folk", name := "dangerFor", desc := "(LRoadToPort$Land;II)I" } : Jvm.MethodName)) ∈ zT := zj_in4 (i := 49) rfl rfl
theorem zw_4_52 : (Jvm.Cond.code ({ cls := "RoadToPort$Folk", name := "dangerFor", desc := "(LRoadToPort$Land;II)I" } : Jvm.MethodName) prog_3_method_25_code (5 : Nat) (Option.some Jvm.ClassFile.FieldType.int)) ∈ zT := zj_in4 (i := 50) rfl rfl
theorem zw_4_53 : (Jvm.Cond.methodLink "RoadToPortLaw" (92 : Nat) ({ cls := "RoadToPort", name := "undo", desc := "()I" } : Jvm.MethodName)) ∈ zT := zj_in4 (i := 51) rfl rfl
theorem zw_4_54 : (Jvm.Cond.instanceMethod ({ cls := "RoadToPort", name := "undo", desc := "()I" } : Jvm.MethodName)) ∈ zT := zj_in4 (i := 52) rfl rfl
theorem zw_4_55 : (Jvm.Cond.selects "RoadToPort" ({ cls := "RoadToPort", name := "undo", desc := "()I" } : Jvm.MethodName) ({ cls := "RoadToPort", name := "undo", desc := "()I" } : Jvm.MethodName)) ∈ zT := zj_in4 (i := 53) rfl rfl
theorem zw_4_56 : (Jvm.Cond.code ({ cls := "RoadToPort", name := "undo", desc := "()I" } : Jvm.MethodName) prog_1_method_18_code (1 : Nat) (Option.some Jvm.ClassFile.FieldType.int)) ∈ zT := zj_in4 (i := 54) rfl rfl
theorem zw_4_57 : (Jvm.Cond.methodLink "RoadToPort" (235 : Nat) ({ cls := "RoadToPort$History", name := "takeBack", desc := "(LRoadToPort$Folk;)I" } : Jvm.MethodName)) ∈ zT := zj_in4 (i := 55) rfl rfl
theorem zw_4_58 : (Jvm.Cond.instanceMethod ({ cls := "RoadToPort$History", name := "takeBack", desc := "(LRoadToPort$Folk;)I" } : Jvm.MethodName)) ∈ zT := zj_in4 (i := 56) rfl rfl
theorem zw_4_59 : (Jvm.Cond.selects "RoadToPort$History" ({ cls := "RoadToPort$History", name := "takeBack", desc := "(LRoadToPort$Folk;)I" } : Jvm.MethodName) ({ cls := "RoadToPort$History", name := "takeBack", desc := "(LRoadToPort$Folk;)I" } : Jvm.MethodName)) ∈ zT := zj_in4 (i := 57) rfl rfl
theorem zw_4_60 : (Jvm.Cond.code ({ cls := "RoadToPort$History", name := "takeBack", desc := "(LRoadToPort$Folk;)I" } : Jvm.MethodName) prog_4_method_4_code (2 : Nat) (Option.some Jvm.ClassFile.FieldType.int)) ∈ zT := zj_in4 (i := 58) rfl rfl
theorem zw_4_61 : (Jvm.Cond.methodLink "RoadToPortLaw" (96 : Nat) ({ cls := "RoadToPort", name := "far", desc := "(II)I" } : Jvm.MethodName)) ∈ zT := zj_in4 (i := 59) rfl rfl
theorem zw_4_62 : (Jvm.Cond.instanceMethod ({ cls := "RoadToPort", name := "far", desc := "(II)I" } : Jvm.MethodName)) ∈ zT := zj_in4 (i := 60) rfl rfl
theorem zw_4_63 : (Jvm.Cond.selects "RoadToPort" ({ cls := "RoadToPort", name := "far", desc := "(II)I" } : Jvm.MethodName) ({ cls := "RoadToPort", name := "far", desc := "(II)I" } : Jvm.MethodName)) ∈ zT := zj_in4 (i := 61) rfl rfl
theorem zw_4_64 : (Jvm.Cond.code ({ cls := "RoadToPort", name := "far", desc := "(II)I" } : Jvm.MethodName) prog_1_method_19_code (3 : Nat) (Option.some Jvm.ClassFile.FieldType.int)) ∈ zT := zj_in4 (i := 62) rfl rfl
theorem zw_4_65 : (Jvm.Cond.methodLink "RoadToPort" (239 : Nat) ({ cls := "RoadToPort$Land", name := "joined", desc := "(II)Z" } : Jvm.MethodName)) ∈ zT := zj_in4 (i := 63) rfl rfl
theorem zw_4_66 : (Jvm.Cond.methodLink "RoadToPort" (243 : Nat) ({ cls := "RoadToPort$Land", name := "milesBetween", desc := "(II)I" } : Jvm.MethodName)) ∈ zT := zj_in4 (i := 64) rfl rfl
theorem zw_4_67 : (Jvm.Cond.methodLink "RoadToPortLaw" (100 : Nat) ({ cls := "RoadToPort", name := "way", desc := "(II)I" } : Jvm.MethodName)) ∈ zT := zj_in4 (i := 65) rfl rfl
theorem zw_4_68 : (Jvm.Cond.instanceMethod ({ cls := "RoadToPort", name := "way", desc := "(II)I" } : Jvm.MethodName)) ∈ zT := zj_in4 (i := 66) rfl rfl
theorem zw_4_69 : (Jvm.Cond.selects "RoadToPort" ({ cls := "RoadToPort", name := "way", desc := "(II)I" } : Jvm.MethodName) ({ cls := "RoadToPort", name := "way", desc := "(II)I" } : Jvm.MethodName)) ∈ zT := zj_in4 (i := 67) rfl rfl
theorem zw_4_70 : (Jvm.Cond.code ({ cls := "RoadToPort", name := "way", desc := "(II)I" } : Jvm.MethodName) prog_1_method_20_code (5 : Nat) (Option.some Jvm.ClassFile.FieldType.int)) ∈ zT := zj_in4 (i := 68) rfl rfl
theorem zw_4_71 : (Jvm.Cond.methodLink "RoadToPort" (246 : Nat) ({ cls := "RoadToPort$Land", name := "nextTo", desc := "(II)I" } : Jvm.MethodName)) ∈ zT := zj_in4 (i := 69) rfl rfl
theorem zw_4_72 : (Jvm.Cond.methodLink "RoadToPortLaw" (104 : Nat) ({ cls := "RoadToPort", name := "wayAt", desc := "(I)I" } : Jvm.MethodName)) ∈ zT := zj_in4 (i := 70) rfl rfl
theorem zw_4_73 : (Jvm.Cond.instanceMethod ({ cls := "RoadToPort", name := "wayAt", desc := "(I)I" } : Jvm.MethodName)) ∈ zT := zj_in4 (i := 71) rfl rfl
theorem zw_4_74 : (Jvm.Cond.selects "RoadToPort" ({ cls := "RoadToPort", name := "wayAt", desc := "(I)I" } : Jvm.MethodName) ({ cls := "RoadToPort", name := "wayAt", desc := "(I)I" } : Jvm.MethodName)) ∈ zT := zj_in4 (i := 72) rfl rfl
theorem zw_4_75 : (Jvm.Cond.code ({ cls := "RoadToPort", name := "wayAt", desc := "(I)I" } : Jvm.MethodName) prog_1_method_21_code (2 : Nat) (Option.some Jvm.ClassFile.FieldType.int)) ∈ zT := zj_in4 (i := 73) rfl rfl
theorem zw_4_76 : (Jvm.Cond.methodLink "RoadToPortLaw" (111 : Nat) ({ cls := "RoadToPort", name := "planAt", desc := "(I)I" } : Jvm.MethodName)) ∈ zT := zj_in4 (i := 74) rfl rfl
theorem zw_4_77 : (Jvm.Cond.instanceMethod ({ cls := "RoadToPort", name := "planAt", desc := "(I)I" } : Jvm.MethodName)) ∈ zT := zj_in4 (i := 75) rfl rfl
theorem zw_4_78 : (Jvm.Cond.selects "RoadToPort" ({ cls := "RoadToPort", name := "planAt", desc := "(I)I" } : Jvm.MethodName) ({ cls := "RoadToPort", name := "planAt", desc := "(I)I" } : Jvm.MethodName)) ∈ zT := zj_in4 (i := 76) rfl rfl
theorem zw_4_79 : (Jvm.Cond.code ({ cls := "RoadToPort", name := "planAt", desc := "(I)I" } : Jvm.MethodName) prog_1_method_23_code (2 : Nat) (Option.some Jvm.ClassFile.FieldType.int)) ∈ zT := zj_in4 (i := 77) rfl rfl
theorem zw_4_80 : (Jvm.Cond.methodLink "RoadToPort" (260 : Nat) ({ cls := "RoadToPort$Planner", name := "milesOn", desc := "(I)I" } : Jvm.MethodName)) ∈ zT := zj_in4 (i := 78) rfl rfl
theorem zw_4_81 : (Jvm.Cond.instanceMethod ({ cls := "RoadToPort$Planner", name := "milesOn", desc := "(I)I" } : Jvm.MethodName)) ∈ zT := zj_in4 (i := 79) rfl rfl
theorem zw_4_82 : (Jvm.Cond.selects "RoadToPort$Planner" ({ cls := "RoadToPort$Planner", name := "milesOn", desc := "(I)I" } : Jvm.MethodName) ({ cls := "RoadToPort$Planner", name := "milesOn", desc := "(I)I" } : Jvm.MethodName)) ∈ zT := zj_in4 (i := 80) rfl rfl
theorem zw_4_83 : (Jvm.Cond.code ({ cls := "RoadToPort$Planner", name := "milesOn", desc := "(I)I" } : Jvm.MethodName) prog_8_method_2_code (2 : Nat) (Option.some Jvm.ClassFile.FieldType.int)) ∈ zT := zj_in4 (i := 81) rfl rfl
theorem zw_4_84 : (Jvm.Cond.methodLink "RoadToPortLaw" (115 : Nat) ({ cls := "RoadToPort", name := "sent", desc := "()I" } : Jvm.MethodName)) ∈ zT := zj_in4 (i := 82) rfl rfl
theorem zw_4_85 : (Jvm.Cond.instanceMethod ({ cls := "RoadToPort", name := "sent", desc := "()I" } : Jvm.MethodName)) ∈ zT := zj_in4 (i := 83) rfl rfl
theorem zw_4_86 : (Jvm.Cond.selects "RoadToPort" ({ cls := "RoadToPort", name := "sent", desc := "()I" } : Jvm.MethodName) ({ cls := "RoadToPort", name := "sent", desc := "()I" } : Jvm.MethodName)) ∈ zT := zj_in4 (i := 84) rfl rfl
theorem zw_4_87 : (Jvm.Cond.code ({ cls := "RoadToPort", name := "sent", desc := "()I" } : Jvm.MethodName) prog_1_method_24_code (1 : Nat) (Option.some Jvm.ClassFile.FieldType.int)) ∈ zT := zj_in4 (i := 85) rfl rfl
theorem zw_4_88 : (Jvm.Cond.methodLink "RoadToPort" (263 : Nat) ({ cls := "RoadToPort$Sender", name := "send", desc := "(LRoadToPort$Land;LRoadToPort$Folk;)I" } : Jvm.MethodName)) ∈ zT := zj_in4 (i := 86) rfl rfl
theorem zw_4_89 : (Jvm.Cond.instanceMethod ({ cls := "RoadToPort$Sender", name := "send", desc := "(LRoadToPort$Land;LRoadToPort$Folk;)I" } : Jvm.MethodName)) ∈ zT := zj_in4 (i := 87) rfl rfl
theorem zw_4_90 : (Jvm.Cond.selects "RoadToPort$Sender" ({ cls := "RoadToPort$Sender", name := "send", desc := "(LRoadToPort$Land;LRoadToPort$Folk;)I" } : Jvm.MethodName) ({ cls := "RoadToPort$Sender", name := "send", desc := "(LRoadToPort$Land;LRoadToPort$Folk;)I" } : Jvm.MethodName)) ∈ zT := zj_in4 (i := 88) rfl rfl
theorem zw_4_91 : (Jvm.Cond.code ({ cls := "RoadToPort$Sender", name := "send", desc := "(LRoadToPort$Land;LRoadToPort$Folk;)I" } : Jvm.MethodName) prog_11_method_3_code (7 : Nat) (Option.some Jvm.ClassFile.FieldType.int)) ∈ zT := zj_in4 (i := 89) rfl rfl
theorem zw_4_92 : (Jvm.Cond.methodLink "RoadToPort$Sender" (34 : Nat) ({ cls := "RoadToPort$Folk", name := "menWho", desc := "(II)I" } : Jvm.MethodName)) ∈ zT := zj_in4 (i := 90) rfl rfl
theorem zw_4_93 : (Jvm.Cond.constantLong "RoadToPort$Sender" (40 : Nat) (1000000000000 : Int64)) ∈ zT := zj_in4 (i := 91) rfl rfl
theorem zw_4_94 : (Jvm.Cond.methodLink "RoadToPort$Sender" (42 : Nat) ({ cls := "java/util/Arrays", name := "fill", desc := "([JJ)V" } : Jvm.MethodName)) ∈ zT := zj_in4 (i := 92) rfl rfl
theorem zw_4_95 : (Jvm.Cond.static ({ cls := "java/util/Arrays", name := "fill", desc := "([JJ)V" } : Jvm.MethodName)) ∈ zT := zj_in4 (i := 93) rfl rfl
theorem zw_4_96 : (Jvm.Cond.code ({ cls := "java/util/Arrays", name := "fill", desc := "([JJ)V" } : Jvm.MethodName) prog_29_method_101_code (5 : Nat) (Option.none : Option Jvm.ClassFile.FieldType)) ∈ zT := zj_in4 (i := 94) rfl rfl
theorem zw_4_97 : (Jvm.Cond.methodLink "RoadToPort$Sender" (48 : Nat) ({ cls := "RoadToPort$Land", name := "isPort", desc := "(I)Z" } : Jvm.MethodName)) ∈ zT := zj_in4 (i := 95) rfl rfl
theorem zw_4_98 : (Jvm.Cond.methodLink "RoadToPort$Sender" (52 : Nat) ({ cls := "RoadToPort$Sender", name := "weigh", desc := "(LRoadToPort$Land;LRoadToPort$Folk;II)V" } : Jvm.MethodName)) ∈ zT := zj_in4 (i := 96) rfl rfl
theorem zw_4_100 : (Jvm.Cond.instanceMethod ({ cls := "RoadToPort$Sender", name := "weigh", desc := "(LRoadToPort$Land;LRoadToPort$Folk;II)V" } : Jvm.MethodName)) ∈ zT := zj_in4 (i := 98) rfl rfl
theorem zw_4_101 : (Jvm.Cond.code ({ cls := "RoadToPort$Sender", name := "weigh", desc := "(LRoadToPort$Land;LRoadToPort$Folk;II)V" } : Jvm.MethodName) prog_11_method_4_code (12 : Nat) (Option.none : Option Jvm.ClassFile.FieldType)) ∈ zT := zj_in4 (i := 99) rfl rfl
theorem zw_4_102 : (Jvm.Cond.constantLong "RoadToPort$Sender" (63 : Nat) (1000000 : Int64)) ∈ zT := zj_in4 (i := 100) rfl rfl
theorem zw_4_103 : (Jvm.Cond.constantLong "RoadToPort$Sender" (65 : Nat) (10 : Int64)) ∈ zT := zj_in4 (i := 101) rfl rfl
theorem zw_4_104 : (Jvm.Cond.methodLink "RoadToPort$Sender" (67 : Nat) ({ cls := "RoadToPort$Folk", name := "of", desc := "(II)I" } : Jvm.MethodName)) ∈ zT := zj_in4 (i := 102) rfl rfl
theorem zw_4_105 : (Jvm.Cond.methodLink "RoadToPort$Sender" (70 : Nat) ({ cls := "RoadToPort$Land", name := "joined", desc := "(II)Z" } : Jvm.MethodName)) ∈ zT := zj_in4 (i := 103) rfl rfl
theorem zw_4_106 : (Jvm.Cond.methodLink "RoadToPort$Sender" (74 : Nat) ({ cls := "RoadToPort$Land", name := "milesBetween", desc := "(II)I" } : Jvm.MethodName)) ∈ zT := zj_in4 (i := 104) rfl rfl
theorem zw_4_107 : (Jvm.Cond.methodLink "RoadToPort$Sender" (56 : Nat) ({ cls := "RoadToPort$Land", name := "ofPlace", desc := "(II)I" } : Jvm.MethodName)) ∈ zT := zj_in4 (i := 105) rfl rfl
theorem zw_4_108 : (Jvm.Cond.methodLink "RoadToPort$Sender" (59 : Nat) ({ cls := "RoadToPort$Sender", name := "spread", desc := "(II)V" } : Jvm.MethodName)) ∈ zT := zj_in4 (i := 106) rfl rfl
theorem zw_4_110 : (Jvm.Cond.instanceMethod ({ cls := "RoadToPort$Sender", name := "spread", desc := "(II)V" } : Jvm.MethodName)) ∈ zT := zj_in4 (i := 108) rfl rfl
theorem zw_4_111 : (Jvm.Cond.code ({ cls := "RoadToPort$Sender", name := "spread", desc := "(II)V" } : Jvm.MethodName) prog_11_method_5_code (7 : Nat) (Option.none : Option Jvm.ClassFile.FieldType)) ∈ zT := zj_in4 (i := 109) rfl rfl
theorem zw_4_112 : (Jvm.Cond.methodLink "RoadToPort$Sender" (77 : Nat) ({ cls := "java/lang/Integer", name := "bitCount", desc := "(I)I" } : Jvm.MethodName)) ∈ zT := zj_in4 (i := 110) rfl rfl
theorem zw_4_113 : (Jvm.Cond.static ({ cls := "java/lang/Integer", name := "bitCount", desc := "(I)I" } : Jvm.MethodName)) ∈ zT := zj_in4 (i := 111) rfl rfl
theorem zw_4_114 : (Jvm.Cond.code ({ cls := "java/lang/Integer", name := "bitCount", desc := "(I)I" } : Jvm.MethodName) prog_19_method_49_code (1 : Nat) (Option.some Jvm.ClassFile.FieldType.int)) ∈ zT := zj_in4 (i := 112) rfl rfl
theorem zw_4_115 : (Jvm.Cond.constant "java/lang/Integer" (265 : Nat) (1431655765 : Int32)) ∈ zT := zj_in4 (i := 113) rfl rfl
theorem zw_4_116 : (Jvm.Cond.constant "java/lang/Integer" (266 : Nat) (858993459 : Int32)) ∈ zT := zj_in4 (i := 114) rfl rfl
theorem zw_4_117 : (Jvm.Cond.constant "java/lang/Integer" (267 : Nat) (252645135 : Int32)) ∈ zT := zj_in4 (i := 115) rfl rfl
theorem zw_4_118 : (Jvm.Cond.methodLink "RoadToPort$Sender" (83 : Nat) ({ cls := "java/lang/Math", name := "min", desc := "(JJ)J" } : Jvm.MethodName)) ∈ zT := zj_in4 (i := 116) rfl rfl
theorem zw_4_119 : (Jvm.Cond.static ({ cls := "java/lang/Math", name := "min", desc := "(JJ)J" } : Jvm.MethodName)) ∈ zT := zj_in4 (i := 117) rfl rfl
theorem zw_4_120 : (Jvm.Cond.code ({ cls := "java/lang/Math", name := "min", desc := "(JJ)J" } : Jvm.MethodName) prog_20_method_70_code (4 : Nat) (Option.some Jvm.ClassFile.FieldType.long)) ∈ zT := zj_in4 (i := 118) rfl rfl
theorem zw_4_121 : (Jvm.Cond.methodLink "RoadToPortLaw" (119 : Nat) ({ cls := "RoadToPort", name := "sentTo", desc := "(I)I" } : Jvm.MethodName)) ∈ zT := zj_in4 (i := 119) rfl rfl
theorem zw_4_122 : (Jvm.Cond.instanceMethod ({ cls := "RoadToPort", name := "sentTo", desc := "(I)I" } : Jvm.MethodName)) ∈ zT := zj_in4 (i := 120) rfl rfl
theorem zw_4_123 : (Jvm.Cond.selects "RoadToPort" ({ cls := "RoadToPort", name := "sentTo", desc := "(I)I" } : Jvm.MethodName) ({ cls := "RoadToPort", name := "sentTo", desc := "(I)I" } : Jvm.MethodName)) ∈ zT := zj_in4 (i := 121) rfl rfl
theorem zw_4_124 : (Jvm.Cond.code ({ cls := "RoadToPort", name := "sentTo", desc := "(I)I" } : Jvm.MethodName) prog_1_method_25_code (2 : Nat) (Option.some Jvm.ClassFile.FieldType.int)) ∈ zT := zj_in4 (i := 122) rfl rfl
theorem zw_4_125 : (Jvm.Cond.methodLink "RoadToPort" (267 : Nat) ({ cls := "RoadToPort$Sender", name := "portOf", desc := "(I)I" } : Jvm.MethodName)) ∈ zT := zj_in4 (i := 123) rfl rfl
theorem zw_4_126 : (Jvm.Cond.instanceMethod ({ cls := "RoadToPort$Sender", name := "portOf", desc := "(I)I" } : Jvm.MethodName)) ∈ zT := zj_in4 (i := 124) rfl rfl
theorem zw_4_127 : (Jvm.Cond.selects "RoadToPort$Sender" ({ cls := "RoadToPort$Sender", name := "portOf", desc := "(I)I" } : Jvm.MethodName) ({ cls := "RoadToPort$Sender", name := "portOf", desc := "(I)I" } : Jvm.MethodName)) ∈ zT := zj_in4 (i := 125) rfl rfl
theorem zw_4_128 : (Jvm.Cond.code ({ cls := "RoadToPort$Sender", name := "portOf", desc := "(I)I" } : Jvm.MethodName) prog_11_method_2_code (2 : Nat) (Option.some Jvm.ClassFile.FieldType.int)) ∈ zT := zj_in4 (i := 126) rfl rfl
theorem zw_4_129 : (Jvm.Cond.methodLink "RoadToPortLaw" (123 : Nat) ({ cls := "RoadToPort", name := "cut", desc := "(II)I" } : Jvm.MethodName)) ∈ zT := zj_in4 (i := 127) rfl rfl
theorem zw_4_130 : (Jvm.Cond.instanceMethod ({ cls := "RoadToPort", name := "cut", desc := "(II)I" } : Jvm.MethodName)) ∈ zT := zj_in4 (i := 128) rfl rfl
theorem zw_4_131 : (Jvm.Cond.selects "RoadToPort" ({ cls := "RoadToPort", name := "cut", desc := "(II)I" } : Jvm.MethodName) ({ cls := "RoadToPort", name := "cut", desc := "(II)I" } : Jvm.MethodName)) ∈ zT := zj_in4 (i := 129) rfl rfl
theorem zw_4_132 : (Jvm.Cond.code ({ cls := "RoadToPort", name := "cut", desc := "(II)I" } : Jvm.MethodName) prog_1_method_26_code (3 : Nat) (Option.some Jvm.ClassFile.FieldType.int)) ∈ zT := zj_in4 (i := 130) rfl rfl
theorem zw_4_133 : (Jvm.Cond.methodLink "RoadToPort" (270 : Nat) ({ cls := "RoadToPort$Cutter", name := "part", desc := "(LRoadToPort$Land;II)I" } : Jvm.MethodName)) ∈ zT := zj_in4 (i := 131) rfl rfl
theorem zw_4_134 : (Jvm.Cond.instanceMethod ({ cls := "RoadToPort$Cutter", name := "part", desc := "(LRoadToPort$Land;II)I" } : Jvm.MethodName)) ∈ zT := zj_in4 (i := 132) rfl rfl
theorem zw_4_135 : (Jvm.Cond.selects "RoadToPort$Cutter" ({ cls := "RoadToPort$Cutter", name := "part", desc := "(LRoadToPort$Land;II)I" } : Jvm.MethodName) ({ cls := "RoadToPort$Cutter", name := "part", desc := "(LRoadToPort$Land;II)I" } : Jvm.MethodName)) ∈ zT := zj_in4 (i := 133) rfl rfl
theorem zw_4_136 : (Jvm.Cond.code ({ cls := "RoadToPort$Cutter", name := "part", desc := "(LRoadToPort$Land;II)I" } : Jvm.MethodName) prog_2_method_2_code (8 : Nat) (Option.some Jvm.ClassFile.FieldType.int)) ∈ zT := zj_in4 (i := 134) rfl rfl
theorem zw_4_137 : (Jvm.Cond.methodLink "RoadToPort$Cutter" (25 : Nat) ({ cls := "RoadToPort$Cutter", name := "flow", desc := "(LRoadToPort$Land;IIII)I" } : Jvm.MethodName)) ∈ zT := zj_in4 (i := 135) rfl rfl
theorem zw_4_139 : (Jvm.Cond.instanceMethod ({ cls := "RoadToPort$Cutter", name := "flow", desc := "(LRoadToPort$Land;IIII)I" } : Jvm.MethodName)) ∈ zT := zj_in4 (i := 137) rfl rfl
theorem zw_4_140 : (Jvm.Cond.code ({ cls := "RoadToPort$Cutter", name := "flow", desc := "(LRoadToPort$Land;IIII)I" } : Jvm.MethodName) prog_2_method_3_code (7 : Nat) (Option.some Jvm.ClassFile.FieldType.int)) ∈ zT := zj_in4 (i := 138) rfl rfl
theorem zw_4_141 : (Jvm.Cond.methodLink "RoadToPort$Cutter" (34 : Nat) ({ cls := "java/util/Arrays", name := "fill", desc := "([II)V" } : Jvm.MethodName)) ∈ zT := zj_in4 (i := 139) rfl rfl
theorem zw_4_142 : (Jvm.Cond.methodLink "RoadToPort$Cutter" (40 : Nat) ({ cls := "RoadToPort$Cutter", name := "search", desc := "(LRoadToPort$Land;III)Z" } : Jvm.MethodName)) ∈ zT := zj_in4 (i := 140) rfl rfl
theorem zw_4_144 : (Jvm.Cond.instanceMethod ({ cls := "RoadToPort$Cutter", name := "search", desc := "(LRoadToPort$Land;III)Z" } : Jvm.MethodName)) ∈ zT := zj_in4 (i := 142) rfl rfl
theorem zw_4_145 : (Jvm.Cond.code ({ cls := "RoadToPort$Cutter", name := "search", desc := "(LRoadToPort$Land;III)Z" } : Jvm.MethodName) prog_2_method_4_code (10 : Nat) (Option.some Jvm.ClassFile.FieldType.boolean)) ∈ zT := zj_in4 (i := 143) rfl rfl
theorem zw_4_146 : (Jvm.Cond.methodLink "RoadToPort$Cutter" (48 : Nat) ({ cls := "RoadToPort$Cutter", name := "openEnd", desc := "(LRoadToPort$Land;III)I" } : Jvm.MethodName)) ∈ zT := zj_in4 (i := 144) rfl rfl
theorem zw_4_148 : (Jvm.Cond.instanceMethod ({ cls := "RoadToPort$Cutter", name := "openEnd", desc := "(LRoadToPort$Land;III)I" } : Jvm.MethodName)) ∈ zT := zj_in4 (i := 146) rfl rfl
theorem zw_4_149 : (Jvm.Cond.code ({ cls := "RoadToPort$Cutter", name := "openEnd", desc := "(LRoadToPort$Land;III)I" } : Jvm.MethodName) prog_2_method_5_code (6 : Nat) (Option.some Jvm.ClassFile.FieldType.int)) ∈ zT := zj_in4 (i := 147) rfl rfl
theorem zw_4_150 : (Jvm.Cond.methodLink "RoadToPort$Cutter" (52 : Nat) ({ cls := "RoadToPort$Land", name := "ofRoad", desc := "(II)I" } : Jvm.MethodName)) ∈ zT := zj_in4 (i := 148) rfl rfl
theorem zw_4_151 : (Jvm.Cond.methodLink "RoadToPort$Cutter" (44 : Nat) ({ cls := "RoadToPort$Cutter", name := "push", desc := "(LRoadToPort$Land;II)V" } : Jvm.MethodName)) ∈ zT := zj_in4 (i := 149) rfl rfl
theorem zw_4_153 : (Jvm.Cond.instanceMethod ({ cls := "RoadToPort$Cutter", name := "push", desc := "(LRoadToPort$Land;II)V" } : Jvm.MethodName)) ∈ zT := zj_in4 (i := 151) rfl rfl
theorem zw_4_154 : (Jvm.Cond.code ({ cls := "RoadToPort$Cutter", name := "push", desc := "(LRoadToPort$Land;II)V" } : Jvm.MethodName) prog_2_method_6_code (7 : Nat) (Option.none : Option Jvm.ClassFile.FieldType)) ∈ zT := zj_in4 (i := 152) rfl rfl
theorem zw_4_155 : (Jvm.Cond.methodLink "RoadToPortLaw" (127 : Nat) ({ cls := "RoadToPort", name := "cutting", desc := "()I" } : Jvm.MethodName)) ∈ zT := zj_in4 (i := 153) rfl rfl
theorem zw_4_156 : (Jvm.Cond.instanceMethod ({ cls := "RoadToPort", name := "cutting", desc := "()I" } : Jvm.MethodName)) ∈ zT := zj_in4 (i := 154) rfl rfl
theorem zw_4_157 : (Jvm.Cond.selects "RoadToPort" ({ cls := "RoadToPort", name := "cutting", desc := "()I" } : Jvm.MethodName) ({ cls := "RoadToPort", name := "cutting", desc := "()I" } : Jvm.MethodName)) ∈ zT := zj_in4 (i := 155) rfl rfl
theorem zw_4_158 : (Jvm.Cond.code ({ cls := "RoadToPort", name := "cutting", desc := "()I" } : Jvm.MethodName) prog_1_method_27_code (1 : Nat) (Option.some Jvm.ClassFile.FieldType.int)) ∈ zT := zj_in4 (i := 156) rfl rfl
theorem zw_4_159 : (Jvm.Cond.methodLink "RoadToPortLaw" (131 : Nat) ({ cls := "RoadToPort", name := "worst", desc := "(II)I" } : Jvm.MethodName)) ∈ zT := zj_in4 (i := 157) rfl rfl
theorem zw_4_160 : (Jvm.Cond.instanceMethod ({ cls := "RoadToPort", name := "worst", desc := "(II)I" } : Jvm.MethodName)) ∈ zT := zj_in4 (i := 158) rfl rfl
theorem zw_4_161 : (Jvm.Cond.selects "RoadToPort" ({ cls := "RoadToPort", name := "worst", desc := "(II)I" } : Jvm.MethodName) ({ cls := "RoadToPort", name := "worst", desc := "(II)I" } : Jvm.MethodName)) ∈ zT := zj_in4 (i := 159) rfl rfl
theorem zw_4_162 : (Jvm.Cond.code ({ cls := "RoadToPort", name := "worst", desc := "(II)I" } : Jvm.MethodName) prog_1_method_28_code (7 : Nat) (Option.some Jvm.ClassFile.FieldType.int)) ∈ zT := zj_in4 (i := 160) rfl rfl
theorem zw_4_163 : (Jvm.Cond.methodLink "RoadToPort" (276 : Nat) ({ cls := "RoadToPort$Land", name := "roadToward", desc := "(II)I" } : Jvm.MethodName)) ∈ zT := zj_in4 (i := 161) rfl rfl
theorem zw_4_164 : (Jvm.Cond.methodLink "RoadToPortLaw" (139 : Nat) ({ cls := "RoadToPort", name := "turned", desc := "(I)I" } : Jvm.MethodName)) ∈ zT := zj_in4 (i := 162) rfl rfl
theorem zw_4_165 : (Jvm.Cond.instanceMethod ({ cls := "RoadToPort", name := "turned", desc := "(I)I" } : Jvm.MethodName)) ∈ zT := zj_in4 (i := 163) rfl rfl
theorem zw_4_166 : (Jvm.Cond.selects "RoadToPort" ({ cls := "RoadToPort", name := "turned", desc := "(I)I" } : Jvm.MethodName) ({ cls := "RoadToPort", name := "turned", desc := "(I)I" } : Jvm.MethodName)) ∈ zT := zj_in4 (i := 164) rfl rfl
theorem zw_4_167 : (Jvm.Cond.code ({ cls := "RoadToPort", name := "turned", desc := "(I)I" } : Jvm.MethodName) prog_1_method_30_code (3 : Nat) (Option.some Jvm.ClassFile.FieldType.int)) ∈ zT := zj_in4 (i := 165) rfl rfl
theorem zw_4_168 : (Jvm.Cond.methodLink "RoadToPort" (181 : Nat) ({ cls := "RoadToPort$Folk", name := "of", desc := "(II)I" } : Jvm.MethodName)) ∈ zT := zj_in4 (i := 166) rfl rfl
theorem zw_4_169 : (Jvm.Cond.methodLink "RoadToPort" (184 : Nat) ({ cls := "RoadToPort$Land", name := "ofMan", desc := "(II)I" } : Jvm.MethodName)) ∈ zT := zj_in4 (i := 167) rfl rfl
theorem zw_4_170 : (Jvm.Cond.methodLink "RoadToPort" (187 : Nat) ({ cls := "RoadToPort$Folk", name := "allMiles", desc := "(LRoadToPort$Land;I)I" } : Jvm.MethodName)) ∈ zT := zj_in4 (i := 168) rfl rfl
theorem zw_4_171 : (Jvm.Cond.methodLink "RoadToPort" (285 : Nat) ({ cls := "RoadToPort$Tracker", name := "track", desc := "(LRoadToPort$Reader;II)I" } : Jvm.MethodName)) ∈ zT := zj_in4 (i := 169) rfl rfl
theorem zw_4_172 : (Jvm.Cond.instanceMethod ({ cls := "RoadToPort$Tracker", name := "track", desc := "(LRoadToPort$Reader;II)I" } : Jvm.MethodName)) ∈ zT := zj_in4 (i := 170) rfl rfl
theorem zw_4_173 : (Jvm.Cond.selects "RoadToPort$Tracker" ({ cls := "RoadToPort$Tracker", name := "track", desc := "(LRoadToPort$Reader;II)I" } : Jvm.MethodName) ({ cls := "RoadToPort$Tracker", name := "track", desc := "(LRoadToPort$Reader;II)I" } : Jvm.MethodName)) ∈ zT := zj_in4 (i := 171) rfl rfl
theorem zw_4_174 : (Jvm.Cond.code ({ cls := "RoadToPort$Tracker", name := "track", desc := "(LRoadToPort$Reader;II)I" } : Jvm.MethodName) prog_12_method_2_code (6 : Nat) (Option.some Jvm.ClassFile.FieldType.int)) ∈ zT := zj_in4 (i := 172) rfl rfl
theorem zw_4_175 : (Jvm.Cond.methodLink "RoadToPort$Tracker" (34 : Nat) ({ cls := "java/util/Arrays", name := "fill", desc := "([BB)V" } : Jvm.MethodName)) ∈ zT := zj_in4 (i := 173) rfl rfl
theorem zw_4_176 : (Jvm.Cond.static ({ cls := "java/util/Arrays", name := "fill", desc := "([BB)V" } : Jvm.MethodName)) ∈ zT := zj_in4 (i := 174) rfl rfl
theorem zw_4_177 : (Jvm.Cond.code ({ cls := "java/util/Arrays", name := "fill", desc := "([BB)V" } : Jvm.MethodName) prog_29_method_109_code (4 : Nat) (Option.none : Option Jvm.ClassFile.FieldType)) ∈ zT := zj_in4 (i := 175) rfl rfl
theorem zw_4_178 : (Jvm.Cond.methodLink "RoadToPort$Tracker" (40 : Nat) ({ cls := "RoadToPort$Tracker", name := "goesOnTo", desc := "(II)Z" } : Jvm.MethodName)) ∈ zT := zj_in4 (i := 176) rfl rfl
theorem zw_4_180 : (Jvm.Cond.instanceMethod ({ cls := "RoadToPort$Tracker", name := "goesOnTo", desc := "(II)Z" } : Jvm.MethodName)) ∈ zT := zj_in4 (i := 178) rfl rfl
theorem zw_4_181 : (Jvm.Cond.code ({ cls := "RoadToPort$Tracker", name := "goesOnTo", desc := "(II)Z" } : Jvm.MethodName) prog_12_method_3_code (5 : Nat) (Option.some Jvm.ClassFile.FieldType.boolean)) ∈ zT := zj_in4 (i := 179) rfl rfl
theorem zw_4_182 : (Jvm.Cond.methodLink "RoadToPort$Tracker" (44 : Nat) ({ cls := "RoadToPort$Tracker", name := "goesBackFrom", desc := "(III)Z" } : Jvm.MethodName)) ∈ zT := zj_in4 (i := 180) rfl rfl
theorem zw_4_184 : (Jvm.Cond.instanceMethod ({ cls := "RoadToPort$Tracker", name := "goesBackFrom", desc := "(III)Z" } : Jvm.MethodName)) ∈ zT := zj_in4 (i := 182) rfl rfl
theorem zw_4_185 : (Jvm.Cond.code ({ cls := "RoadToPort$Tracker", name := "goesBackFrom", desc := "(III)Z" } : Jvm.MethodName) prog_12_method_4_code (6 : Nat) (Option.some Jvm.ClassFile.FieldType.boolean)) ∈ zT := zj_in4 (i := 183) rfl rfl
theorem zw_4_186 : (Jvm.Cond.methodLink "RoadToPort$Tracker" (48 : Nat) ({ cls := "RoadToPort$Tracker", name := "mark", desc := "(IIII)V" } : Jvm.MethodName)) ∈ zT := zj_in4 (i := 184) rfl rfl
theorem zw_4_188 : (Jvm.Cond.instanceMethod ({ cls := "RoadToPort$Tracker", name := "mark", desc := "(IIII)V" } : Jvm.MethodName)) ∈ zT := zj_in4 (i := 186) rfl rfl
theorem zw_4_189 : (Jvm.Cond.code ({ cls := "RoadToPort$Tracker", name := "mark", desc := "(IIII)V" } : Jvm.MethodName) prog_12_method_5_code (6 : Nat) (Option.none : Option Jvm.ClassFile.FieldType)) ∈ zT := zj_in4 (i := 187) rfl rfl
theorem zw_4_190 : (Jvm.Cond.methodLink "RoadToPort$Tracker" (56 : Nat) ({ cls := "java/lang/Math", name := "max", desc := "(II)I" } : Jvm.MethodName)) ∈ zT := zj_in4 (i := 188) rfl rfl
theorem zw_4_191 : (Jvm.Cond.static ({ cls := "java/lang/Math", name := "max", desc := "(II)I" } : Jvm.MethodName)) ∈ zT := zj_in4 (i := 189) rfl rfl
theorem zw_4_192 : (Jvm.Cond.code ({ cls := "java/lang/Math", name := "max", desc := "(II)I" } : Jvm.MethodName) prog_20_method_65_code (2 : Nat) (Option.some Jvm.ClassFile.FieldType.int)) ∈ zT := zj_in4 (i := 190) rfl rfl
theorem zw_4_193 : (Jvm.Cond.methodLink "RoadToPort$Tracker" (52 : Nat) ({ cls := "RoadToPort$Tracker", name := "tell", desc := "(I)I" } : Jvm.MethodName)) ∈ zT := zj_in4 (i := 191) rfl rfl
theorem zw_4_195 : (Jvm.Cond.instanceMethod ({ cls := "RoadToPort$Tracker", name := "tell", desc := "(I)I" } : Jvm.MethodName)) ∈ zT := zj_in4 (i := 193) rfl rfl
theorem zw_4_196 : (Jvm.Cond.code ({ cls := "RoadToPort$Tracker", name := "tell", desc := "(I)I" } : Jvm.MethodName) prog_12_method_6_code (6 : Nat) (Option.some Jvm.ClassFile.FieldType.int)) ∈ zT := zj_in4 (i := 194) rfl rfl
theorem zw_4_197 : (Jvm.Cond.methodLink "RoadToPortLaw" (143 : Nat) ({ cls := "RoadToPort", name := "least", desc := "()I" } : Jvm.MethodName)) ∈ zT := zj_in4 (i := 195) rfl rfl
theorem zw_4_198 : (Jvm.Cond.instanceMethod ({ cls := "RoadToPort", name := "least", desc := "()I" } : Jvm.MethodName)) ∈ zT := zj_in4 (i := 196) rfl rfl
theorem zw_4_199 : (Jvm.Cond.selects "RoadToPort" ({ cls := "RoadToPort", name := "least", desc := "()I" } : Jvm.MethodName) ({ cls := "RoadToPort", name := "least", desc := "()I" } : Jvm.MethodName)) ∈ zT := zj_in4 (i := 197) rfl rfl
theorem zw_4_200 : (Jvm.Cond.code ({ cls := "RoadToPort", name := "least", desc := "()I" } : Jvm.MethodName) prog_1_method_31_code (1 : Nat) (Option.some Jvm.ClassFile.FieldType.int)) ∈ zT := zj_in4 (i := 198) rfl rfl
theorem zw_4_201 : (Jvm.Cond.methodLink "RoadToPortLaw" (147 : Nat) ({ cls := "RoadToPort", name := "greatest", desc := "()I" } : Jvm.MethodName)) ∈ zT := zj_in4 (i := 199) rfl rfl
theorem zw_4_202 : (Jvm.Cond.instanceMethod ({ cls := "RoadToPort", name := "greatest", desc := "()I" } : Jvm.MethodName)) ∈ zT := zj_in4 (i := 200) rfl rfl
theorem zw_4_203 : (Jvm.Cond.selects "RoadToPort" ({ cls := "RoadToPort", name := "greatest", desc := "()I" } : Jvm.MethodName) ({ cls := "RoadToPort", name := "greatest", desc := "()I" } : Jvm.MethodName)) ∈ zT := zj_in4 (i := 201) rfl rfl
theorem zw_4_204 : (Jvm.Cond.code ({ cls := "RoadToPort", name := "greatest", desc := "()I" } : Jvm.MethodName) prog_1_method_32_code (1 : Nat) (Option.some Jvm.ClassFile.FieldType.int)) ∈ zT := zj_in4 (i := 202) rfl rfl
theorem zw_4_205 : (Jvm.Cond.methodLink "RoadToPortLaw" (151 : Nat) ({ cls := "RoadToPort", name := "there", desc := "(I)I" } : Jvm.MethodName)) ∈ zT := zj_in4 (i := 203) rfl rfl
theorem zw_4_206 : (Jvm.Cond.instanceMethod ({ cls := "RoadToPort", name := "there", desc := "(I)I" } : Jvm.MethodName)) ∈ zT := zj_in4 (i := 204) rfl rfl
theorem zw_4_207 : (Jvm.Cond.selects "RoadToPort" ({ cls := "RoadToPort", name := "there", desc := "(I)I" } : Jvm.MethodName) ({ cls := "RoadToPort", name := "there", desc := "(I)I" } : Jvm.MethodName)) ∈ zT := zj_in4 (i := 205) rfl rfl
theorem zw_4_208 : (Jvm.Cond.code ({ cls := "RoadToPort", name := "there", desc := "(I)I" } : Jvm.MethodName) prog_1_method_33_code (6 : Nat) (Option.some Jvm.ClassFile.FieldType.int)) ∈ zT := zj_in4 (i := 206) rfl rfl
theorem zw_4_209 : (Jvm.Cond.methodLink "RoadToPort" (191 : Nat) ({ cls := "RoadToPort$Folk", name := "daysYet", desc := "(I)I" } : Jvm.MethodName)) ∈ zT := zj_in4 (i := 207) rfl rfl
theorem zw_4_210 : (Jvm.Cond.instanceMethod ({ cls := "RoadToPort$Folk", name := "daysYet", desc := "(I)I" } : Jvm.MethodName)) ∈ zT := zj_in4 (i := 208) rfl rfl
theorem zw_4_211 : (Jvm.Cond.selects "RoadToPort$Folk" ({ cls := "RoadToPort$Folk", name := "daysYet", desc := "(I)I" } : Jvm.MethodName) ({ cls := "RoadToPort$Folk", name := "daysYet", desc := "(I)I" } : Jvm.MethodName)) ∈ zT := zj_in4 (i := 209) rfl rfl
theorem zw_4_212 : (Jvm.Cond.code ({ cls := "RoadToPort$Folk", name := "daysYet", desc := "(I)I" } : Jvm.MethodName) prog_3_method_9_code (2 : Nat) (Option.some Jvm.ClassFile.FieldType.int)) ∈ zT := zj_in4 (i := 210) rfl rfl
theorem zw_4_213 : (Jvm.Cond.methodLink "RoadToPortLaw" (155 : Nat) ({ cls := "RoadToPort", name := "oath", desc := "(I)I" } : Jvm.MethodName)) ∈ zT := zj_in4 (i := 211) rfl rfl
theorem zw_4_214 : (Jvm.Cond.instanceMethod ({ cls := "RoadToPort", name := "oath", desc := "(I)I" } : Jvm.MethodName)) ∈ zT := zj_in4 (i := 212) rfl rfl
theorem zw_4_215 : (Jvm.Cond.selects "RoadToPort" ({ cls := "RoadToPort", name := "oath", desc := "(I)I" } : Jvm.MethodName) ({ cls := "RoadToPort", name := "oath", desc := "(I)I" } : Jvm.MethodName)) ∈ zT := zj_in4 (i := 213) rfl rfl
theorem zw_4_216 : (Jvm.Cond.code ({ cls := "RoadToPort", name := "oath", desc := "(I)I" } : Jvm.MethodName) prog_1_method_34_code (2 : Nat) (Option.some Jvm.ClassFile.FieldType.int)) ∈ zT := zj_in4 (i := 214) rfl rfl
theorem zw_4_217 : (Jvm.Cond.methodLink "RoadToPort" (295 : Nat) ({ cls := "RoadToPort$Scribe", name := "write", desc := "(LRoadToPort$Land;LRoadToPort$Folk;I)I" } : Jvm.MethodName)) ∈ zT := zj_in4 (i := 215) rfl rfl
theorem zw_4_218 : (Jvm.Cond.instanceMethod ({ cls := "RoadToPort$Scribe", name := "write", desc := "(LRoadToPort$Land;LRoadToPort$Folk;I)I" } : Jvm.MethodName)) ∈ zT := zj_in4 (i := 216) rfl rfl
theorem zw_4_219 : (Jvm.Cond.selects "RoadToPort$Scribe" ({ cls := "RoadToPort$Scribe", name := "write", desc := "(LRoadToPort$Land;LRoadToPort$Folk;I)I" } : Jvm.MethodName) ({ cls := "RoadToPort$Scribe", name := "write", desc := "(LRoadToPort$Land;LRoadToPort$Folk;I)I" } : Jvm.MethodName)) ∈ zT := zj_in4 (i := 217) rfl rfl
theorem zw_4_220 : (Jvm.Cond.code ({ cls := "RoadToPort$Scribe", name := "write", desc := "(LRoadToPort$Land;LRoadToPort$Folk;I)I" } : Jvm.MethodName) prog_10_method_2_code (4 : Nat) (Option.some Jvm.ClassFile.FieldType.int)) ∈ zT := zj_in4 (i := 218) rfl rfl
theorem zw_4_219n : (Jvm.Cond.methodLink "RoadToPort$Scribe" (19 : Nat) ({ cls := "RoadToPort$Land", name := "nameOfMan", desc := "(I)J" } : Jvm.MethodName)) ∈ zT := zj_in4 (i := 219) rfl rfl
theorem zw_4_220n : (Jvm.Cond.instanceMethod ({ cls := "RoadToPort$Land", name := "nameOfMan", desc := "(I)J" } : Jvm.MethodName)) ∈ zT := zj_in4 (i := 220) rfl rfl
theorem zw_4_221n : (Jvm.Cond.selects "RoadToPort$Land" ({ cls := "RoadToPort$Land", name := "nameOfMan", desc := "(I)J" } : Jvm.MethodName) ({ cls := "RoadToPort$Land", name := "nameOfMan", desc := "(I)J" } : Jvm.MethodName)) ∈ zT := zj_in4 (i := 221) rfl rfl
theorem zw_4_222 : (Jvm.Cond.code ({ cls := "RoadToPort$Land", name := "nameOfMan", desc := "(I)J" } : Jvm.MethodName) prog_5_method_15_code (2 : Nat) (Option.some Jvm.ClassFile.FieldType.long)) ∈ zT := zj_in4 (i := 222) rfl rfl
theorem zw_4_221 : (Jvm.Cond.methodLink "RoadToPort$Scribe" (25 : Nat) ({ cls := "RoadToPort$Scribe", name := "name", desc := "(J)V" } : Jvm.MethodName)) ∈ zT := zj_in4 (i := 223) rfl rfl
theorem zw_4_223 : (Jvm.Cond.instanceMethod ({ cls := "RoadToPort$Scribe", name := "name", desc := "(J)V" } : Jvm.MethodName)) ∈ zT := zj_in4 (i := 225) rfl rfl
theorem zw_4_224 : (Jvm.Cond.code ({ cls := "RoadToPort$Scribe", name := "name", desc := "(J)V" } : Jvm.MethodName) prog_10_method_5_code (5 : Nat) (Option.none : Option Jvm.ClassFile.FieldType)) ∈ zT := zj_in4 (i := 226) rfl rfl
theorem zw_4_225 : (Jvm.Cond.methodLink "RoadToPort$Scribe" (73 : Nat) ({ cls := "RoadToPort$Scribe", name := "sign", desc := "(I)V" } : Jvm.MethodName)) ∈ zT := zj_in4 (i := 227) rfl rfl
theorem zw_4_227 : (Jvm.Cond.instanceMethod ({ cls := "RoadToPort$Scribe", name := "sign", desc := "(I)V" } : Jvm.MethodName)) ∈ zT := zj_in4 (i := 229) rfl rfl
theorem zw_4_228 : (Jvm.Cond.code ({ cls := "RoadToPort$Scribe", name := "sign", desc := "(I)V" } : Jvm.MethodName) prog_10_method_3_code (2 : Nat) (Option.none : Option Jvm.ClassFile.FieldType)) ∈ zT := zj_in4 (i := 230) rfl rfl
theorem zw_4_229 : (Jvm.Cond.methodLink "RoadToPort$Scribe" (31 : Nat) ({ cls := "RoadToPort$Folk", name := "of", desc := "(II)I" } : Jvm.MethodName)) ∈ zT := zj_in4 (i := 231) rfl rfl
theorem zw_4_231 : (Jvm.Cond.methodLink "RoadToPort$Scribe" (37 : Nat) ({ cls := "RoadToPort$Scribe", name := "words", desc := "(Ljava/lang/String;)V" } : Jvm.MethodName)) ∈ zT := zj_in4 (i := 233) rfl rfl
theorem zw_4_233 : (Jvm.Cond.instanceMethod ({ cls := "RoadToPort$Scribe", name := "words", desc := "(Ljava/lang/String;)V" } : Jvm.MethodName)) ∈ zT := zj_in4 (i := 235) rfl rfl
theorem zw_4_234 : (Jvm.Cond.code ({ cls := "RoadToPort$Scribe", name := "words", desc := "(Ljava/lang/String;)V" } : Jvm.MethodName) prog_10_method_4_code (3 : Nat) (Option.none : Option Jvm.ClassFile.FieldType)) ∈ zT := zj_in4 (i := 236) rfl rfl
theorem zw_4_235 : (Jvm.Cond.methodLink "RoadToPort$Scribe" (64 : Nat) ({ cls := "java/lang/String", name := "length", desc := "()I" } : Jvm.MethodName)) ∈ zT := zj_in4 (i := 237) rfl rfl
theorem zw_4_236 : (Jvm.Cond.methodLink "RoadToPort$Scribe" (69 : Nat) ({ cls := "java/lang/String", name := "charAt", desc := "(I)C" } : Jvm.MethodName)) ∈ zT := zj_in4 (i := 238) rfl rfl
theorem zw_4_239n : (Jvm.Cond.methodLink "RoadToPort$Scribe" (41 : Nat) ({ cls := "RoadToPort$Land", name := "nameOfPlace", desc := "(I)J" } : Jvm.MethodName)) ∈ zT := zj_in4 (i := 239) rfl rfl
theorem zw_5_0n : (Jvm.Cond.instanceMethod ({ cls := "RoadToPort$Land", name := "nameOfPlace", desc := "(I)J" } : Jvm.MethodName)) ∈ zT := zj_in5 (i := 0) rfl rfl
theorem zw_5_1 : (Jvm.Cond.selects "RoadToPort$Land" ({ cls := "RoadToPort$Land", name := "nameOfPlace", desc := "(I)J" } : Jvm.MethodName) ({ cls := "RoadToPort$Land", name := "nameOfPlace", desc := "(I)J" } : Jvm.MethodName)) ∈ zT := zj_in5 (i := 1) rfl rfl
theorem zw_5_2n : (Jvm.Cond.code ({ cls := "RoadToPort$Land", name := "nameOfPlace", desc := "(I)J" } : Jvm.MethodName) prog_5_method_14_code (2 : Nat) (Option.some Jvm.ClassFile.FieldType.long)) ∈ zT := zj_in5 (i := 2) rfl rfl
theorem zw_4_239 : (Jvm.Cond.methodLink "RoadToPort$Scribe" (48 : Nat) ({ cls := "RoadToPort$Folk", name := "daysYet", desc := "(I)I" } : Jvm.MethodName)) ∈ zT := zj_in5 (i := 5) rfl rfl
theorem zw_5_0 : (Jvm.Cond.methodLink "RoadToPort$Scribe" (52 : Nat) ({ cls := "RoadToPort$Scribe", name := "digits", desc := "(I)V" } : Jvm.MethodName)) ∈ zT := zj_in5 (i := 6) rfl rfl
theorem zw_5_2 : (Jvm.Cond.instanceMethod ({ cls := "RoadToPort$Scribe", name := "digits", desc := "(I)V" } : Jvm.MethodName)) ∈ zT := zj_in5 (i := 8) rfl rfl
theorem zw_5_3 : (Jvm.Cond.code ({ cls := "RoadToPort$Scribe", name := "digits", desc := "(I)V" } : Jvm.MethodName) prog_10_method_6_code (2 : Nat) (Option.none : Option Jvm.ClassFile.FieldType)) ∈ zT := zj_in5 (i := 9) rfl rfl
theorem zw_5_8 : (Jvm.Cond.methodLink "RoadToPortLaw" (159 : Nat) ({ cls := "RoadToPort", name := "byteAt", desc := "(I)I" } : Jvm.MethodName)) ∈ zT := zj_in5 (i := 14) rfl rfl
theorem zw_5_9 : (Jvm.Cond.instanceMethod ({ cls := "RoadToPort", name := "byteAt", desc := "(I)I" } : Jvm.MethodName)) ∈ zT := zj_in5 (i := 15) rfl rfl
theorem zw_5_10 : (Jvm.Cond.selects "RoadToPort" ({ cls := "RoadToPort", name := "byteAt", desc := "(I)I" } : Jvm.MethodName) ({ cls := "RoadToPort", name := "byteAt", desc := "(I)I" } : Jvm.MethodName)) ∈ zT := zj_in5 (i := 16) rfl rfl
theorem zw_5_11 : (Jvm.Cond.code ({ cls := "RoadToPort", name := "byteAt", desc := "(I)I" } : Jvm.MethodName) prog_1_method_35_code (2 : Nat) (Option.some Jvm.ClassFile.FieldType.int)) ∈ zT := zj_in5 (i := 17) rfl rfl
theorem zw_5_12 : (Jvm.Cond.methodLink "RoadToPortLaw" (163 : Nat) ({ cls := "RoadToPort", name := "odds", desc := "(III)I" } : Jvm.MethodName)) ∈ zT := zj_in5 (i := 18) rfl rfl
theorem zw_5_13 : (Jvm.Cond.instanceMethod ({ cls := "RoadToPort", name := "odds", desc := "(III)I" } : Jvm.MethodName)) ∈ zT := zj_in5 (i := 19) rfl rfl
theorem zw_5_14 : (Jvm.Cond.selects "RoadToPort" ({ cls := "RoadToPort", name := "odds", desc := "(III)I" } : Jvm.MethodName) ({ cls := "RoadToPort", name := "odds", desc := "(III)I" } : Jvm.MethodName)) ∈ zT := zj_in5 (i := 20) rfl rfl
theorem zw_5_15 : (Jvm.Cond.code ({ cls := "RoadToPort", name := "odds", desc := "(III)I" } : Jvm.MethodName) prog_1_method_36_code (6 : Nat) (Option.some Jvm.ClassFile.FieldType.int)) ∈ zT := zj_in5 (i := 21) rfl rfl
theorem zw_5_16 : (Jvm.Cond.methodLink "RoadToPort" (304 : Nat) ({ cls := "RoadToPort$Folk", name := "sailsIn", desc := "(LRoadToPort$Land;III)Z" } : Jvm.MethodName)) ∈ zT := zj_in5 (i := 22) rfl rfl
theorem zw_5_17 : (Jvm.Cond.instanceMethod ({ cls := "RoadToPort$Folk", name := "sailsIn", desc := "(LRoadToPort$Land;III)Z" } : Jvm.MethodName)) ∈ zT := zj_in5 (i := 23) rfl rfl
theorem zw_5_18 : (Jvm.Cond.selects "RoadToPort$Folk" ({ cls := "RoadToPort$Folk", name := "sailsIn", desc := "(LRoadToPort$Land;III)Z" } : Jvm.MethodName) ({ cls := "RoadToPort$Folk", name := "sailsIn", desc := "(LRoadToPort$Land;III)Z" } : Jvm.MethodName)) ∈ zT := zj_in5 (i := 24) rfl rfl
theorem zw_5_19 : (Jvm.Cond.code ({ cls := "RoadToPort$Folk", name := "sailsIn", desc := "(LRoadToPort$Land;III)Z" } : Jvm.MethodName) prog_3_method_20_code (7 : Nat) (Option.some Jvm.ClassFile.FieldType.boolean)) ∈ zT := zj_in5 (i := 25) rfl rfl
theorem zw_5_20 : (Jvm.Cond.methodLink "RoadToPortLaw" (167 : Nat) ({ cls := "RoadToPort", name := "book", desc := "(I)I" } : Jvm.MethodName)) ∈ zT := zj_in5 (i := 26) rfl rfl
theorem zw_5_21 : (Jvm.Cond.instanceMethod ({ cls := "RoadToPort", name := "book", desc := "(I)I" } : Jvm.MethodName)) ∈ zT := zj_in5 (i := 27) rfl rfl
theorem zw_5_22 : (Jvm.Cond.selects "RoadToPort" ({ cls := "RoadToPort", name := "book", desc := "(I)I" } : Jvm.MethodName) ({ cls := "RoadToPort", name := "book", desc := "(I)I" } : Jvm.MethodName)) ∈ zT := zj_in5 (i := 28) rfl rfl
theorem zw_5_23 : (Jvm.Cond.code ({ cls := "RoadToPort", name := "book", desc := "(I)I" } : Jvm.MethodName) prog_1_method_37_code (4 : Nat) (Option.some Jvm.ClassFile.FieldType.int)) ∈ zT := zj_in5 (i := 29) rfl rfl
theorem zw_5_24 : (Jvm.Cond.methodLink "RoadToPort" (308 : Nat) ({ cls := "RoadToPort$Ledger", name := "read", desc := "(LRoadToPort$Reader;LRoadToPort$Land;)Z" } : Jvm.MethodName)) ∈ zT := zj_in5 (i := 30) rfl rfl
theorem zw_5_25 : (Jvm.Cond.instanceMethod ({ cls := "RoadToPort$Ledger", name := "read", desc := "(LRoadToPort$Reader;LRoadToPort$Land;)Z" } : Jvm.MethodName)) ∈ zT := zj_in5 (i := 31) rfl rfl
theorem zw_5_26 : (Jvm.Cond.selects "RoadToPort$Ledger" ({ cls := "RoadToPort$Ledger", name := "read", desc := "(LRoadToPort$Reader;LRoadToPort$Land;)Z" } : Jvm.MethodName) ({ cls := "RoadToPort$Ledger", name := "read", desc := "(LRoadToPort$Reader;LRoadToPort$Land;)Z" } : Jvm.MethodName)) ∈ zT := zj_in5 (i := 32) rfl rfl
theorem zw_5_27 : (Jvm.Cond.code ({ cls := "RoadToPort$Ledger", name := "read", desc := "(LRoadToPort$Reader;LRoadToPort$Land;)Z" } : Jvm.MethodName) prog_6_method_2_code (4 : Nat) (Option.some Jvm.ClassFile.FieldType.boolean)) ∈ zT := zj_in5 (i := 33) rfl rfl
theorem zw_5_28 : (Jvm.Cond.methodLink "RoadToPort$Ledger" (25 : Nat) ({ cls := "RoadToPort$Reader", name := "begin", desc := "(I)V" } : Jvm.MethodName)) ∈ zT := zj_in5 (i := 34) rfl rfl
theorem zw_5_29 : (Jvm.Cond.methodLink "RoadToPort$Ledger" (31 : Nat) ({ cls := "RoadToPort$Reader", name := "more", desc := "()Z" } : Jvm.MethodName)) ∈ zT := zj_in5 (i := 35) rfl rfl
theorem zw_5_30 : (Jvm.Cond.methodLink "RoadToPort$Ledger" (35 : Nat) ({ cls := "RoadToPort$Ledger", name := "readLine", desc := "(LRoadToPort$Reader;LRoadToPort$Land;)V" } : Jvm.MethodName)) ∈ zT := zj_in5 (i := 36) rfl rfl
theorem zw_5_32 : (Jvm.Cond.instanceMethod ({ cls := "RoadToPort$Ledger", name := "readLine", desc := "(LRoadToPort$Reader;LRoadToPort$Land;)V" } : Jvm.MethodName)) ∈ zT := zj_in5 (i := 38) rfl rfl
theorem zw_5_33 : (Jvm.Cond.code ({ cls := "RoadToPort$Ledger", name := "readLine", desc := "(LRoadToPort$Reader;LRoadToPort$Land;)V" } : Jvm.MethodName) prog_6_method_3_code (6 : Nat) (Option.none : Option Jvm.ClassFile.FieldType)) ∈ zT := zj_in5 (i := 39) rfl rfl
theorem zw_5_34 : (Jvm.Cond.methodLink "RoadToPort$Ledger" (48 : Nat) ({ cls := "RoadToPort$Land", name := "knownMan", desc := "(LRoadToPort$Reader;)I" } : Jvm.MethodName)) ∈ zT := zj_in5 (i := 40) rfl rfl
theorem zw_5_35 : (Jvm.Cond.methodLink "RoadToPort$Ledger" (54 : Nat) ({ cls := "RoadToPort$Reader", name := "fail", desc := "(I)V" } : Jvm.MethodName)) ∈ zT := zj_in5 (i := 41) rfl rfl
theorem zw_5_36 : (Jvm.Cond.methodLink "RoadToPort$Ledger" (57 : Nat) ({ cls := "RoadToPort$Reader", name := "advance", desc := "()V" } : Jvm.MethodName)) ∈ zT := zj_in5 (i := 42) rfl rfl
theorem zw_5_37 : (Jvm.Cond.methodLink "RoadToPort$Ledger" (60 : Nat) ({ cls := "RoadToPort$Reader", name := "number", desc := "(II)I" } : Jvm.MethodName)) ∈ zT := zj_in5 (i := 43) rfl rfl
theorem zw_5_38 : (Jvm.Cond.methodLink "RoadToPort$Ledger" (64 : Nat) ({ cls := "RoadToPort$Ledger", name := "readAct", desc := "(LRoadToPort$Reader;LRoadToPort$Land;I)V" } : Jvm.MethodName)) ∈ zT := zj_in5 (i := 44) rfl rfl
theorem zw_5_40 : (Jvm.Cond.instanceMethod ({ cls := "RoadToPort$Ledger", name := "readAct", desc := "(LRoadToPort$Reader;LRoadToPort$Land;I)V" } : Jvm.MethodName)) ∈ zT := zj_in5 (i := 46) rfl rfl
theorem zw_5_41 : (Jvm.Cond.code ({ cls := "RoadToPort$Ledger", name := "readAct", desc := "(LRoadToPort$Reader;LRoadToPort$Land;I)V" } : Jvm.MethodName) prog_6_method_4_code (6 : Nat) (Option.none : Option Jvm.ClassFile.FieldType)) ∈ zT := zj_in5 (i := 47) rfl rfl
theorem zw_5_42 : (Jvm.Cond.methodLink "RoadToPort$Ledger" (68 : Nat) ({ cls := "RoadToPort$Land", name := "knownPlace", desc := "(LRoadToPort$Reader;)I" } : Jvm.MethodName)) ∈ zT := zj_in5 (i := 48) rfl rfl
theorem zw_5_43 : (Jvm.Cond.methodLink "RoadToPort$Ledger" (71 : Nat) ({ cls := "RoadToPort$Land", name := "isPort", desc := "(I)Z" } : Jvm.MethodName)) ∈ zT := zj_in5 (i := 49) rfl rfl
theorem zw_5_44 : (Jvm.Cond.methodLink "RoadToPort$Ledger" (39 : Nat) ({ cls := "RoadToPort$Reader", name := "expect", desc := "(I)V" } : Jvm.MethodName)) ∈ zT := zj_in5 (i := 50) rfl rfl
theorem zw_5_45 : (Jvm.Cond.methodLink "RoadToPort" (311 : Nat) ({ cls := "RoadToPort$Ledger", name := "live", desc := "(LRoadToPort$Land;LRoadToPort$Folk;)I" } : Jvm.MethodName)) ∈ zT := zj_in5 (i := 51) rfl rfl
theorem zw_5_46 : (Jvm.Cond.instanceMethod ({ cls := "RoadToPort$Ledger", name := "live", desc := "(LRoadToPort$Land;LRoadToPort$Folk;)I" } : Jvm.MethodName)) ∈ zT := zj_in5 (i := 52) rfl rfl
theorem zw_5_47 : (Jvm.Cond.selects "RoadToPort$Ledger" ({ cls := "RoadToPort$Ledger", name := "live", desc := "(LRoadToPort$Land;LRoadToPort$Folk;)I" } : Jvm.MethodName) ({ cls := "RoadToPort$Ledger", name := "live", desc := "(LRoadToPort$Land;LRoadToPort$Folk;)I" } : Jvm.MethodName)) ∈ zT := zj_in5 (i := 53) rfl rfl
theorem zw_5_48 : (Jvm.Cond.code ({ cls := "RoadToPort$Ledger", name := "live", desc := "(LRoadToPort$Land;LRoadToPort$Folk;)I" } : Jvm.MethodName) prog_6_method_5_code (4 : Nat) (Option.some Jvm.ClassFile.FieldType.int)) ∈ zT := zj_in5 (i := 54) rfl rfl
theorem zw_5_49 : (Jvm.Cond.methodLink "RoadToPort$Ledger" (75 : Nat) ({ cls := "RoadToPort$Ledger", name := "liveLine", desc := "(LRoadToPort$Land;LRoadToPort$Folk;I)I" } : Jvm.MethodName)) ∈ zT := zj_in5 (i := 55) rfl rfl
theorem zw_5_51 : (Jvm.Cond.instanceMethod ({ cls := "RoadToPort$Ledger", name := "liveLine", desc := "(LRoadToPort$Land;LRoadToPort$Folk;I)I" } : Jvm.MethodName)) ∈ zT := zj_in5 (i := 57) rfl rfl
theorem zw_5_52 : (Jvm.Cond.code ({ cls := "RoadToPort$Ledger", name := "liveLine", desc := "(LRoadToPort$Land;LRoadToPort$Folk;I)I" } : Jvm.MethodName) prog_6_method_6_code (6 : Nat) (Option.some Jvm.ClassFile.FieldType.int)) ∈ zT := zj_in5 (i := 58) rfl rfl
theorem zw_5_53 : (Jvm.Cond.methodLink "RoadToPort$Ledger" (91 : Nat) ({ cls := "RoadToPort$Folk", name := "swears", desc := "(LRoadToPort$Land;III)I" } : Jvm.MethodName)) ∈ zT := zj_in5 (i := 59) rfl rfl
theorem zw_5_54 : (Jvm.Cond.methodLink "RoadToPort$Ledger" (95 : Nat) ({ cls := "RoadToPort$Folk", name := "orders", desc := "(LRoadToPort$Land;II)I" } : Jvm.MethodName)) ∈ zT := zj_in5 (i := 60) rfl rfl
theorem zw_5_55 : (Jvm.Cond.methodLink "RoadToPort$Ledger" (99 : Nat) ({ cls := "RoadToPort$Ledger", name := "above", desc := "(II)I" } : Jvm.MethodName)) ∈ zT := zj_in5 (i := 61) rfl rfl
theorem zw_5_56 : (Jvm.Cond.static ({ cls := "RoadToPort$Ledger", name := "above", desc := "(II)I" } : Jvm.MethodName)) ∈ zT := zj_in5 (i := 62) rfl rfl
theorem zw_5_57 : (Jvm.Cond.code ({ cls := "RoadToPort$Ledger", name := "above", desc := "(II)I" } : Jvm.MethodName) prog_6_method_7_code (2 : Nat) (Option.some Jvm.ClassFile.FieldType.int)) ∈ zT := zj_in5 (i := 63) rfl rfl
theorem zw_5_58 : (Jvm.Cond.methodLink "RoadToPort$Ledger" (102 : Nat) ({ cls := "RoadToPort$Folk", name := "slips", desc := "(I)I" } : Jvm.MethodName)) ∈ zT := zj_in5 (i := 64) rfl rfl
theorem zw_5_59 : (Jvm.Cond.methodLink "RoadToPort$Ledger" (106 : Nat) ({ cls := "RoadToPort$Folk", name := "enters", desc := "(LRoadToPort$Land;I)I" } : Jvm.MethodName)) ∈ zT := zj_in5 (i := 65) rfl rfl
theorem zw_5_60 : (Jvm.Cond.methodLink "RoadToPort$Ledger" (110 : Nat) ({ cls := "RoadToPort$Folk", name := "gets", desc := "(II)I" } : Jvm.MethodName)) ∈ zT := zj_in5 (i := 66) rfl rfl
theorem zw_5_61 : (Jvm.Cond.methodLink "RoadToPort$Ledger" (113 : Nat) ({ cls := "RoadToPort$Folk", name := "daysToCome", desc := "()I" } : Jvm.MethodName)) ∈ zT := zj_in5 (i := 67) rfl rfl
theorem zw_5_62 : (Jvm.Cond.methodLink "RoadToPort$Ledger" (116 : Nat) ({ cls := "RoadToPort$Folk", name := "goDays", desc := "(LRoadToPort$Land;II)I" } : Jvm.MethodName)) ∈ zT := zj_in5 (i := 68) rfl rfl
theorem zw_5_63 : (Jvm.Cond.methodLink "RoadToPort$Ledger" (79 : Nat) ({ cls := "RoadToPort$Folk", name := "today", desc := "()I" } : Jvm.MethodName)) ∈ zT := zj_in5 (i := 69) rfl rfl
theorem zw_5_64 : (Jvm.Cond.methodLink "RoadToPort$Ledger" (88 : Nat) ({ cls := "RoadToPort$Folk", name := "menWho", desc := "(II)I" } : Jvm.MethodName)) ∈ zT := zj_in5 (i := 70) rfl rfl
theorem zw_5_65 : (Jvm.Cond.methodLink "RoadToPortLaw" (171 : Nat) ({ cls := "RoadToPort", name := "told", desc := "(I)I" } : Jvm.MethodName)) ∈ zT := zj_in5 (i := 71) rfl rfl
theorem zw_5_66 : (Jvm.Cond.instanceMethod ({ cls := "RoadToPort", name := "told", desc := "(I)I" } : Jvm.MethodName)) ∈ zT := zj_in5 (i := 72) rfl rfl
theorem zw_5_67 : (Jvm.Cond.selects "RoadToPort" ({ cls := "RoadToPort", name := "told", desc := "(I)I" } : Jvm.MethodName) ({ cls := "RoadToPort", name := "told", desc := "(I)I" } : Jvm.MethodName)) ∈ zT := zj_in5 (i := 73) rfl rfl
theorem zw_5_68 : (Jvm.Cond.code ({ cls := "RoadToPort", name := "told", desc := "(I)I" } : Jvm.MethodName) prog_1_method_38_code (2 : Nat) (Option.some Jvm.ClassFile.FieldType.int)) ∈ zT := zj_in5 (i := 74) rfl rfl
theorem zw_5_69 : (Jvm.Cond.methodLink "RoadToPortLaw" (175 : Nat) ({ cls := "RoadToPort", name := "sentence", desc := "()I" } : Jvm.MethodName)) ∈ zT := zj_in5 (i := 75) rfl rfl
theorem zw_5_70 : (Jvm.Cond.instanceMethod ({ cls := "RoadToPort", name := "sentence", desc := "()I" } : Jvm.MethodName)) ∈ zT := zj_in5 (i := 76) rfl rfl
theorem zw_5_71 : (Jvm.Cond.selects "RoadToPort" ({ cls := "RoadToPort", name := "sentence", desc := "()I" } : Jvm.MethodName) ({ cls := "RoadToPort", name := "sentence", desc := "()I" } : Jvm.MethodName)) ∈ zT := zj_in5 (i := 77) rfl rfl
theorem zw_5_72 : (Jvm.Cond.code ({ cls := "RoadToPort", name := "sentence", desc := "()I" } : Jvm.MethodName) prog_1_method_39_code (3 : Nat) (Option.some Jvm.ClassFile.FieldType.int)) ∈ zT := zj_in5 (i := 78) rfl rfl
theorem zw_5_73 : (Jvm.Cond.methodLink "RoadToPort" (320 : Nat) ({ cls := "RoadToPort$Phrase", name := "read", desc := "(LRoadToPort$Reader;LRoadToPort$Land;)Z" } : Jvm.MethodName)) ∈ zT := zj_in5 (i := 79) rfl rfl
theorem zw_5_74 : (Jvm.Cond.instanceMethod ({ cls := "RoadToPort$Phrase", name := "read", desc := "(LRoadToPort$Reader;LRoadToPort$Land;)Z" } : Jvm.MethodName)) ∈ zT := zj_in5 (i := 80) rfl rfl
theorem zw_5_75 : (Jvm.Cond.selects "RoadToPort$Phrase" ({ cls := "RoadToPort$Phrase", name := "read", desc := "(LRoadToPort$Reader;LRoadToPort$Land;)Z" } : Jvm.MethodName) ({ cls := "RoadToPort$Phrase", name := "read", desc := "(LRoadToPort$Reader;LRoadToPort$Land;)Z" } : Jvm.MethodName)) ∈ zT := zj_in5 (i := 81) rfl rfl
theorem zw_5_76 : (Jvm.Cond.code ({ cls := "RoadToPort$Phrase", name := "read", desc := "(LRoadToPort$Reader;LRoadToPort$Land;)Z" } : Jvm.MethodName) prog_7_method_4_code (3 : Nat) (Option.some Jvm.ClassFile.FieldType.boolean)) ∈ zT := zj_in5 (i := 82) rfl rfl
theorem zw_5_77 : (Jvm.Cond.methodLink "RoadToPort$Phrase" (34 : Nat) ({ cls := "RoadToPort$Phrase", name := "clear", desc := "()V" } : Jvm.MethodName)) ∈ zT := zj_in5 (i := 83) rfl rfl
theorem zw_5_78 : (Jvm.Cond.methodLink "RoadToPort$Phrase" (37 : Nat) ({ cls := "RoadToPort$Reader", name := "begin", desc := "(I)V" } : Jvm.MethodName)) ∈ zT := zj_in5 (i := 84) rfl rfl
theorem zw_5_79 : (Jvm.Cond.methodLink "RoadToPort$Phrase" (43 : Nat) ({ cls := "RoadToPort$Phrase", name := "readCond", desc := "(LRoadToPort$Reader;LRoadToPort$Land;I)V" } : Jvm.MethodName)) ∈ zT := zj_in5 (i := 85) rfl rfl
theorem zw_5_81 : (Jvm.Cond.instanceMethod ({ cls := "RoadToPort$Phrase", name := "readCond", desc := "(LRoadToPort$Reader;LRoadToPort$Land;I)V" } : Jvm.MethodName)) ∈ zT := zj_in5 (i := 87) rfl rfl
theorem zw_5_82 : (Jvm.Cond.code ({ cls := "RoadToPort$Phrase", name := "readCond", desc := "(LRoadToPort$Reader;LRoadToPort$Land;I)V" } : Jvm.MethodName) prog_7_method_5_code (5 : Nat) (Option.none : Option Jvm.ClassFile.FieldType)) ∈ zT := zj_in5 (i := 88) rfl rfl
theorem zw_5_83 : (Jvm.Cond.methodLink "RoadToPort$Phrase" (57 : Nat) ({ cls := "RoadToPort$Phrase", name := "readAll", desc := "(LRoadToPort$Reader;LRoadToPort$Land;I)V" } : Jvm.MethodName)) ∈ zT := zj_in5 (i := 89) rfl rfl
theorem zw_5_85 : (Jvm.Cond.instanceMethod ({ cls := "RoadToPort$Phrase", name := "readAll", desc := "(LRoadToPort$Reader;LRoadToPort$Land;I)V" } : Jvm.MethodName)) ∈ zT := zj_in5 (i := 91) rfl rfl
theorem zw_5_86 : (Jvm.Cond.code ({ cls := "RoadToPort$Phrase", name := "readAll", desc := "(LRoadToPort$Reader;LRoadToPort$Land;I)V" } : Jvm.MethodName) prog_7_method_6_code (5 : Nat) (Option.none : Option Jvm.ClassFile.FieldType)) ∈ zT := zj_in5 (i := 92) rfl rfl
theorem zw_5_87 : (Jvm.Cond.methodLink "RoadToPort$Phrase" (70 : Nat) ({ cls := "RoadToPort$Phrase", name := "readOne", desc := "(LRoadToPort$Reader;LRoadToPort$Land;I)V" } : Jvm.MethodName)) ∈ zT := zj_in5 (i := 93) rfl rfl
theorem zw_5_89 : (Jvm.Cond.instanceMethod ({ cls := "RoadToPort$Phrase", name := "readOne", desc := "(LRoadToPort$Reader;LRoadToPort$Land;I)V" } : Jvm.MethodName)) ∈ zT := zj_in5 (i := 95) rfl rfl
theorem zw_5_90 : (Jvm.Cond.code ({ cls := "RoadToPort$Phrase", name := "readOne", desc := "(LRoadToPort$Reader;LRoadToPort$Land;I)V" } : Jvm.MethodName) prog_7_method_7_code (7 : Nat) (Option.none : Option Jvm.ClassFile.FieldType)) ∈ zT := zj_in5 (i := 96) rfl rfl
theorem zw_5_91 : (Jvm.Cond.methodLink "RoadToPort$Phrase" (51 : Nat) ({ cls := "RoadToPort$Reader", name := "fail", desc := "(I)V" } : Jvm.MethodName)) ∈ zT := zj_in5 (i := 97) rfl rfl
theorem zw_5_92 : (Jvm.Cond.methodLink "RoadToPort$Phrase" (63 : Nat) ({ cls := "RoadToPort$Reader", name := "advance", desc := "()V" } : Jvm.MethodName)) ∈ zT := zj_in5 (i := 98) rfl rfl
theorem zw_5_93 : (Jvm.Cond.methodLink "RoadToPort$Phrase" (76 : Nat) ({ cls := "RoadToPort$Reader", name := "expect", desc := "(I)V" } : Jvm.MethodName)) ∈ zT := zj_in5 (i := 99) rfl rfl
theorem zw_5_94 : (Jvm.Cond.methodLink "RoadToPort$Phrase" (66 : Nat) ({ cls := "RoadToPort$Phrase", name := "add", desc := "(III)V" } : Jvm.MethodName)) ∈ zT := zj_in5 (i := 100) rfl rfl
theorem zw_5_96 : (Jvm.Cond.instanceMethod ({ cls := "RoadToPort$Phrase", name := "add", desc := "(III)V" } : Jvm.MethodName)) ∈ zT := zj_in5 (i := 102) rfl rfl
theorem zw_5_97 : (Jvm.Cond.code ({ cls := "RoadToPort$Phrase", name := "add", desc := "(III)V" } : Jvm.MethodName) prog_7_method_8_code (4 : Nat) (Option.none : Option Jvm.ClassFile.FieldType)) ∈ zT := zj_in5 (i := 103) rfl rfl
theorem zw_5_98 : (Jvm.Cond.methodLink "RoadToPort$Phrase" (79 : Nat) ({ cls := "RoadToPort$Land", name := "knownPlace", desc := "(LRoadToPort$Reader;)I" } : Jvm.MethodName)) ∈ zT := zj_in5 (i := 104) rfl rfl
theorem zw_5_99 : (Jvm.Cond.methodLink "RoadToPort$Phrase" (85 : Nat) ({ cls := "RoadToPort$Reader", name := "number", desc := "(II)I" } : Jvm.MethodName)) ∈ zT := zj_in5 (i := 105) rfl rfl
theorem zw_5_100 : (Jvm.Cond.methodLink "RoadToPort$Phrase" (47 : Nat) ({ cls := "RoadToPort$Reader", name := "more", desc := "()Z" } : Jvm.MethodName)) ∈ zT := zj_in5 (i := 106) rfl rfl
theorem zw_5_101 : (Jvm.Cond.methodLink "RoadToPortLaw" (179 : Nat) ({ cls := "RoadToPort", name := "said", desc := "(I)I" } : Jvm.MethodName)) ∈ zT := zj_in5 (i := 107) rfl rfl
theorem zw_5_102 : (Jvm.Cond.instanceMethod ({ cls := "RoadToPort", name := "said", desc := "(I)I" } : Jvm.MethodName)) ∈ zT := zj_in5 (i := 108) rfl rfl
theorem zw_5_103 : (Jvm.Cond.selects "RoadToPort" ({ cls := "RoadToPort", name := "said", desc := "(I)I" } : Jvm.MethodName) ({ cls := "RoadToPort", name := "said", desc := "(I)I" } : Jvm.MethodName)) ∈ zT := zj_in5 (i := 109) rfl rfl
theorem zw_5_104 : (Jvm.Cond.code ({ cls := "RoadToPort", name := "said", desc := "(I)I" } : Jvm.MethodName) prog_1_method_40_code (4 : Nat) (Option.some Jvm.ClassFile.FieldType.int)) ∈ zT := zj_in5 (i := 110) rfl rfl
theorem zw_5_105 : (Jvm.Cond.methodLink "RoadToPort" (324 : Nat) ({ cls := "RoadToPort$Phrase", name := "holds", desc := "(LRoadToPort$Land;LRoadToPort$Folk;I)Z" } : Jvm.MethodName)) ∈ zT := zj_in5 (i := 111) rfl rfl
theorem zw_5_106 : (Jvm.Cond.instanceMethod ({ cls := "RoadToPort$Phrase", name := "holds", desc := "(LRoadToPort$Land;LRoadToPort$Folk;I)Z" } : Jvm.MethodName)) ∈ zT := zj_in5 (i := 112) rfl rfl
theorem zw_5_107 : (Jvm.Cond.selects "RoadToPort$Phrase" ({ cls := "RoadToPort$Phrase", name := "holds", desc := "(LRoadToPort$Land;LRoadToPort$Folk;I)Z" } : Jvm.MethodName) ({ cls := "RoadToPort$Phrase", name := "holds", desc := "(LRoadToPort$Land;LRoadToPort$Folk;I)Z" } : Jvm.MethodName)) ∈ zT := zj_in5 (i := 113) rfl rfl
theorem zw_5_108 : (Jvm.Cond.code ({ cls := "RoadToPort$Phrase", name := "holds", desc := "(LRoadToPort$Land;LRoadToPort$Folk;I)Z" } : Jvm.MethodName) prog_7_method_9_code (7 : Nat) (Option.some Jvm.ClassFile.FieldType.boolean)) ∈ zT := zj_in5 (i := 114) rfl rfl
theorem zw_5_109 : (Jvm.Cond.methodLink "RoadToPort$Phrase" (89 : Nat) ({ cls := "RoadToPort$Phrase", name := "isSo", desc := "(LRoadToPort$Land;LRoadToPort$Folk;II)Z" } : Jvm.MethodName)) ∈ zT := zj_in5 (i := 115) rfl rfl
theorem zw_5_111 : (Jvm.Cond.instanceMethod ({ cls := "RoadToPort$Phrase", name := "isSo", desc := "(LRoadToPort$Land;LRoadToPort$Folk;II)Z" } : Jvm.MethodName)) ∈ zT := zj_in5 (i := 117) rfl rfl
theorem zw_5_112 : (Jvm.Cond.code ({ cls := "RoadToPort$Phrase", name := "isSo", desc := "(LRoadToPort$Land;LRoadToPort$Folk;II)Z" } : Jvm.MethodName) prog_7_method_10_code (6 : Nat) (Option.some Jvm.ClassFile.FieldType.boolean)) ∈ zT := zj_in5 (i := 118) rfl rfl
theorem zw_5_113 : (Jvm.Cond.methodLink "RoadToPort$Phrase" (95 : Nat) ({ cls := "RoadToPort$Folk", name := "of", desc := "(II)I" } : Jvm.MethodName)) ∈ zT := zj_in5 (i := 119) rfl rfl
theorem zw_5_114 : (Jvm.Cond.methodLink "RoadToPort$Phrase" (98 : Nat) ({ cls := "RoadToPort$Land", name := "ofMan", desc := "(II)I" } : Jvm.MethodName)) ∈ zT := zj_in5 (i := 120) rfl rfl
theorem zw_5_115 : (Jvm.Cond.methodLink "RoadToPort$Phrase" (101 : Nat) ({ cls := "RoadToPort$Folk", name := "isJustAt", desc := "(II)Z" } : Jvm.MethodName)) ∈ zT := zj_in5 (i := 121) rfl rfl
theorem zw_5_116 : (Jvm.Cond.methodLink "RoadToPort$Phrase" (105 : Nat) ({ cls := "RoadToPort$Phrase", name := "compares", desc := "(II)Z" } : Jvm.MethodName)) ∈ zT := zj_in5 (i := 122) rfl rfl
theorem zw_5_118 : (Jvm.Cond.instanceMethod ({ cls := "RoadToPort$Phrase", name := "compares", desc := "(II)Z" } : Jvm.MethodName)) ∈ zT := zj_in5 (i := 124) rfl rfl
theorem zw_5_119 : (Jvm.Cond.code ({ cls := "RoadToPort$Phrase", name := "compares", desc := "(II)Z" } : Jvm.MethodName) prog_7_method_11_code (3 : Nat) (Option.some Jvm.ClassFile.FieldType.boolean)) ∈ zT := zj_in5 (i := 125) rfl rfl
theorem zw_5_120 : (Jvm.Cond.methodLink "RoadToPort$Phrase" (108 : Nat) ({ cls := "RoadToPort$Folk", name := "daysYet", desc := "(I)I" } : Jvm.MethodName)) ∈ zT := zj_in5 (i := 126) rfl rfl
theorem zw_5_121 : (Jvm.Cond.methodLink "RoadToPortLaw" (183 : Nat) ({ cls := "RoadToPort", name := "image", desc := "(I)Z" } : Jvm.MethodName)) ∈ zT := zj_in5 (i := 127) rfl rfl
theorem zw_5_122 : (Jvm.Cond.instanceMethod ({ cls := "RoadToPort", name := "image", desc := "(I)Z" } : Jvm.MethodName)) ∈ zT := zj_in5 (i := 128) rfl rfl
theorem zw_5_123 : (Jvm.Cond.selects "RoadToPort" ({ cls := "RoadToPort", name := "image", desc := "(I)Z" } : Jvm.MethodName) ({ cls := "RoadToPort", name := "image", desc := "(I)Z" } : Jvm.MethodName)) ∈ zT := zj_in5 (i := 129) rfl rfl
theorem zw_5_124 : (Jvm.Cond.code ({ cls := "RoadToPort", name := "image", desc := "(I)Z" } : Jvm.MethodName) prog_1_method_41_code (2 : Nat) (Option.some Jvm.ClassFile.FieldType.boolean)) ∈ zT := zj_in5 (i := 130) rfl rfl
theorem zw_5_125n : (Jvm.Cond.methodLink "RoadToPort" (328 : Nat) ({ cls := "RoadToPort", name := "isKept", desc := "(I)Z" } : Jvm.MethodName)) ∈ zT := zj_in5 (i := 131) rfl rfl
theorem zw_5_127n : (Jvm.Cond.instanceMethod ({ cls := "RoadToPort", name := "isKept", desc := "(I)Z" } : Jvm.MethodName)) ∈ zT := zj_in5 (i := 133) rfl rfl
theorem zw_5_128n : (Jvm.Cond.code ({ cls := "RoadToPort", name := "isKept", desc := "(I)Z" } : Jvm.MethodName) prog_1_method_43_code (2 : Nat) (Option.some Jvm.ClassFile.FieldType.boolean)) ∈ zT := zj_in5 (i := 134) rfl rfl
theorem zw_5_125 : (Jvm.Cond.methodLink "RoadToPort" (331 : Nat) ({ cls := "RoadToPort$Land", name := "copy", desc := "(LRoadToPort$Land;)V" } : Jvm.MethodName)) ∈ zT := zj_in5 (i := 135) rfl rfl
theorem zw_5_126 : (Jvm.Cond.instanceMethod ({ cls := "RoadToPort$Land", name := "copy", desc := "(LRoadToPort$Land;)V" } : Jvm.MethodName)) ∈ zT := zj_in5 (i := 136) rfl rfl
theorem zw_5_127 : (Jvm.Cond.selects "RoadToPort$Land" ({ cls := "RoadToPort$Land", name := "copy", desc := "(LRoadToPort$Land;)V" } : Jvm.MethodName) ({ cls := "RoadToPort$Land", name := "copy", desc := "(LRoadToPort$Land;)V" } : Jvm.MethodName)) ∈ zT := zj_in5 (i := 137) rfl rfl
theorem zw_5_128 : (Jvm.Cond.code ({ cls := "RoadToPort$Land", name := "copy", desc := "(LRoadToPort$Land;)V" } : Jvm.MethodName) prog_5_method_2_code (2 : Nat) (Option.none : Option Jvm.ClassFile.FieldType)) ∈ zT := zj_in5 (i := 138) rfl rfl
theorem zw_5_129 : (Jvm.Cond.methodLink "RoadToPort$Land" (56 : Nat) ({ cls := "java/lang/System", name := "arraycopy", desc := "(Ljava/lang/Object;ILjava/lang/Object;II)V" } : Jvm.MethodName)) ∈ zT := zj_in5 (i := 139) rfl rfl
theorem zw_5_130 : (Jvm.Cond.methodLink "RoadToPort" (333 : Nat) ({ cls := "RoadToPort$Phrase", name := "copy", desc := "(LRoadToPort$Phrase;)V" } : Jvm.MethodName)) ∈ zT := zj_in5 (i := 140) rfl rfl
theorem zw_5_131 : (Jvm.Cond.instanceMethod ({ cls := "RoadToPort$Phrase", name := "copy", desc := "(LRoadToPort$Phrase;)V" } : Jvm.MethodName)) ∈ zT := zj_in5 (i := 141) rfl rfl
theorem zw_5_132 : (Jvm.Cond.selects "RoadToPort$Phrase" ({ cls := "RoadToPort$Phrase", name := "copy", desc := "(LRoadToPort$Phrase;)V" } : Jvm.MethodName) ({ cls := "RoadToPort$Phrase", name := "copy", desc := "(LRoadToPort$Phrase;)V" } : Jvm.MethodName)) ∈ zT := zj_in5 (i := 142) rfl rfl
theorem zw_5_133 : (Jvm.Cond.code ({ cls := "RoadToPort$Phrase", name := "copy", desc := "(LRoadToPort$Phrase;)V" } : Jvm.MethodName) prog_7_method_3_code (2 : Nat) (Option.none : Option Jvm.ClassFile.FieldType)) ∈ zT := zj_in5 (i := 143) rfl rfl
theorem zw_5_134 : (Jvm.Cond.methodLink "RoadToPort$Phrase" (28 : Nat) ({ cls := "java/lang/System", name := "arraycopy", desc := "(Ljava/lang/Object;ILjava/lang/Object;II)V" } : Jvm.MethodName)) ∈ zT := zj_in5 (i := 144) rfl rfl
theorem zw_5_135 : (Jvm.Cond.methodLink "RoadToPortLaw" (187 : Nat) ({ cls := "RoadToPort", name := "restore", desc := "(I)Z" } : Jvm.MethodName)) ∈ zT := zj_in5 (i := 145) rfl rfl
theorem zw_5_136 : (Jvm.Cond.instanceMethod ({ cls := "RoadToPort", name := "restore", desc := "(I)Z" } : Jvm.MethodName)) ∈ zT := zj_in5 (i := 146) rfl rfl
theorem zw_5_137 : (Jvm.Cond.selects "RoadToPort" ({ cls := "RoadToPort", name := "restore", desc := "(I)Z" } : Jvm.MethodName) ({ cls := "RoadToPort", name := "restore", desc := "(I)Z" } : Jvm.MethodName)) ∈ zT := zj_in5 (i := 147) rfl rfl
theorem zw_5_138 : (Jvm.Cond.code ({ cls := "RoadToPort", name := "restore", desc := "(I)Z" } : Jvm.MethodName) prog_1_method_42_code (2 : Nat) (Option.some Jvm.ClassFile.FieldType.boolean)) ∈ zT := zj_in5 (i := 148) rfl rfl
theorem zw_5_139 : (Jvm.Cond.methodLink "RoadToPortLaw" (54 : Nat) ({ cls := "RoadToPortLaw", name := "man", desc := "(LRoadToPort;II[J)I" } : Jvm.MethodName)) ∈ zT := zj_in5 (i := 149) rfl rfl
theorem zw_5_140 : (Jvm.Cond.static ({ cls := "RoadToPortLaw", name := "man", desc := "(LRoadToPort;II[J)I" } : Jvm.MethodName)) ∈ zT := zj_in5 (i := 150) rfl rfl
theorem zw_5_141 : (Jvm.Cond.codeWith ({ cls := "RoadToPortLaw", name := "man", desc := "(LRoadToPort;II[J)I" } : Jvm.MethodName) method_3_code (5 : Nat) (Option.some Jvm.ClassFile.FieldType.int) [((0 : Nat), (10 : Nat), (13 : Nat), (13 : Nat))]) ∈ zT := zj_in5 (i := 151) rfl rfl
theorem zw_5_142 : (Jvm.Cond.classLink "RoadToPortLaw" (13 : Nat) "java/util/NoSuchElementException") ∈ zT := zj_in5 (i := 152) rfl rfl
theorem zw_5_143 : (Jvm.Cond.methodLink "RoadToPortLaw" (7 : Nat) ({ cls := "RoadToPort", name := "man", desc := "(II)I" } : Jvm.MethodName)) ∈ zT := zj_in5 (i := 153) rfl rfl
theorem zw_5_144 : (Jvm.Cond.instanceMethod ({ cls := "RoadToPort", name := "man", desc := "(II)I" } : Jvm.MethodName)) ∈ zT := zj_in5 (i := 154) rfl rfl
theorem zw_5_145 : (Jvm.Cond.selects "RoadToPort" ({ cls := "RoadToPort", name := "man", desc := "(II)I" } : Jvm.MethodName) ({ cls := "RoadToPort", name := "man", desc := "(II)I" } : Jvm.MethodName)) ∈ zT := zj_in5 (i := 155) rfl rfl
theorem zw_5_146 : (Jvm.Cond.code ({ cls := "RoadToPort", name := "man", desc := "(II)I" } : Jvm.MethodName) prog_1_method_9_code (3 : Nat) (Option.some Jvm.ClassFile.FieldType.int)) ∈ zT := zj_in5 (i := 156) rfl rfl
theorem zw_5_147 : (Jvm.Cond.classLink "RoadToPort" (178 : Nat) "java/util/NoSuchElementException") ∈ zT := zj_in5 (i := 157) rfl rfl
theorem zw_5_148 : (Jvm.Cond.instantiable "java/util/NoSuchElementException" (6 : Nat)) ∈ zT := zj_in5 (i := 158) rfl rfl
theorem zw_5_156 : (Jvm.Cond.selects "java/util/NoSuchElementException" ({ cls := "java/lang/Throwable", name := "fillInStackTrace", desc := "(I)Ljava/lang/Throwable;" } : Jvm.MethodName) ({ cls := "java/lang/Throwable", name := "fillInStackTrace", desc := "(I)Ljava/lang/Throwable;" } : Jvm.MethodName)) ∈ zT := zj_in5 (i := 166) rfl rfl
theorem zw_5_157 : (Jvm.Cond.selects "java/util/NoSuchElementException" ({ cls := "java/lang/Throwable", name := "fillInStackTrace", desc := "()Ljava/lang/Throwable;" } : Jvm.MethodName) ({ cls := "java/lang/Throwable", name := "fillInStackTrace", desc := "()Ljava/lang/Throwable;" } : Jvm.MethodName)) ∈ zT := zj_in5 (i := 167) rfl rfl
theorem zw_5_158 : (Jvm.Cond.lays "java/util/NoSuchElementException" "java/lang/Throwable" "cause" "Ljava/lang/Throwable;") ∈ zT := zj_in5 (i := 168) rfl rfl
theorem zw_5_159 : (Jvm.Cond.lays "java/lang/Throwable" "java/lang/Throwable" "cause" "Ljava/lang/Throwable;") ∈ zT := zj_in5 (i := 169) rfl rfl
theorem zw_5_160 : (Jvm.Cond.lays "java/util/NoSuchElementException" "java/lang/Throwable" "stackTrace" "[Ljava/lang/StackTraceElement;") ∈ zT := zj_in5 (i := 170) rfl rfl
theorem zw_5_161 : (Jvm.Cond.lays "java/lang/Throwable" "java/lang/Throwable" "stackTrace" "[Ljava/lang/StackTraceElement;") ∈ zT := zj_in5 (i := 171) rfl rfl
theorem zw_5_162 : (Jvm.Cond.lays "java/util/NoSuchElementException" "java/lang/Throwable" "suppressedExceptions" "Ljava/util/List;") ∈ zT := zj_in5 (i := 172) rfl rfl
theorem zw_5_163 : (Jvm.Cond.lays "java/lang/Throwable" "java/lang/Throwable" "suppressedExceptions" "Ljava/util/List;") ∈ zT := zj_in5 (i := 173) rfl rfl
theorem zw_5_164 : (Jvm.Cond.lays "java/util/NoSuchElementException" "java/lang/Throwable" "detailMessage" "Ljava/lang/String;") ∈ zT := zj_in5 (i := 174) rfl rfl
theorem zw_5_165 : (Jvm.Cond.lays "java/lang/Throwable" "java/lang/Throwable" "detailMessage" "Ljava/lang/String;") ∈ zT := zj_in5 (i := 175) rfl rfl
theorem zw_5_166 : (Jvm.Cond.lays "java/util/NoSuchElementException" "java/lang/Throwable" "backtrace" "Ljava/lang/Object;") ∈ zT := zj_in5 (i := 176) rfl rfl
theorem zw_5_167 : (Jvm.Cond.lays "java/lang/Throwable" "java/lang/Throwable" "backtrace" "Ljava/lang/Object;") ∈ zT := zj_in5 (i := 177) rfl rfl
theorem zw_5_168 : (Jvm.Cond.fieldLink "java/lang/Throwable" (198 : Nat) "java/lang/Throwable" "backtrace" "Ljava/lang/Object;") ∈ zT := zj_in5 (i := 178) rfl rfl
theorem zw_5_170 : (Jvm.Cond.instanceMethod ({ cls := "java/lang/Throwable", name := "<init>", desc := "()V" } : Jvm.MethodName)) ∈ zT := zj_in5 (i := 180) rfl rfl
theorem zw_5_171 : (Jvm.Cond.code ({ cls := "java/lang/Throwable", name := "<init>", desc := "()V" } : Jvm.MethodName) prog_26_method_1_code (1 : Nat) (Option.none : Option Jvm.ClassFile.FieldType)) ∈ zT := zj_in5 (i := 181) rfl rfl
theorem zw_5_172 : (Jvm.Cond.methodLink "java/lang/Throwable" (1 : Nat) ({ cls := "java/lang/Object", name := "<init>", desc := "()V" } : Jvm.MethodName)) ∈ zT := zj_in5 (i := 182) rfl rfl
theorem zw_5_173 : (Jvm.Cond.fieldLink "java/lang/Throwable" (13 : Nat) "java/lang/Throwable" "UNASSIGNED_STACK" "[Ljava/lang/StackTraceElement;") ∈ zT := zj_in5 (i := 183) rfl rfl
theorem zw_5_175 : (Jvm.Cond.fieldLink "java/lang/Throwable" (20 : Nat) "java/lang/Throwable" "SUPPRESSED_SENTINEL" "Ljava/util/List;") ∈ zT := zj_in5 (i := 185) rfl rfl
theorem zw_5_177 : (Jvm.Cond.methodLink "java/lang/Throwable" (27 : Nat) ({ cls := "java/lang/Throwable", name := "fillInStackTrace", desc := "()Ljava/lang/Throwable;" } : Jvm.MethodName)) ∈ zT := zj_in5 (i := 187) rfl rfl
theorem zw_5_178 : (Jvm.Cond.instanceMethod ({ cls := "java/lang/Throwable", name := "fillInStackTrace", desc := "()Ljava/lang/Throwable;" } : Jvm.MethodName)) ∈ zT := zj_in5 (i := 188) rfl rfl
theorem zw_5_181 : (Jvm.Cond.methodLink "java/lang/Throwable" (202 : Nat) ({ cls := "java/lang/Throwable", name := "fillInStackTrace", desc := "(I)Ljava/lang/Throwable;" } : Jvm.MethodName)) ∈ zT := zj_in5 (i := 191) rfl rfl
theorem zw_5_183 : (Jvm.Cond.instanceMethod ({ cls := "java/lang/Throwable", name := "fillInStackTrace", desc := "(I)Ljava/lang/Throwable;" } : Jvm.MethodName)) ∈ zT := zj_in5 (i := 193) rfl rfl
theorem zw_5_184 : (Jvm.Cond.instantiable "java/lang/Throwable" (6 : Nat)) ∈ zT := zj_in5 (i := 194) rfl rfl
theorem zw_5_185 : (Jvm.Cond.native ({ cls := "java/lang/Throwable", name := "fillInStackTrace", desc := "(I)Ljava/lang/Throwable;" } : Jvm.MethodName)) ∈ zT := zj_in5 (i := 195) rfl rfl
theorem zw_5_186 : (Jvm.Cond.methodLink "RoadToPort" (180 : Nat) ({ cls := "java/util/NoSuchElementException", name := "<init>", desc := "()V" } : Jvm.MethodName)) ∈ zT := zj_in5 (i := 196) rfl rfl
theorem zw_5_187 : (Jvm.Cond.instanceMethod ({ cls := "java/util/NoSuchElementException", name := "<init>", desc := "()V" } : Jvm.MethodName)) ∈ zT := zj_in5 (i := 197) rfl rfl
theorem zw_5_188 : (Jvm.Cond.code ({ cls := "java/util/NoSuchElementException", name := "<init>", desc := "()V" } : Jvm.MethodName) prog_30_method_1_code (1 : Nat) (Option.none : Option Jvm.ClassFile.FieldType)) ∈ zT := zj_in5 (i := 198) rfl rfl
theorem zw_5_189 : (Jvm.Cond.methodLink "java/util/NoSuchElementException" (1 : Nat) ({ cls := "java/lang/RuntimeException", name := "<init>", desc := "()V" } : Jvm.MethodName)) ∈ zT := zj_in5 (i := 199) rfl rfl
theorem zw_5_190 : (Jvm.Cond.instanceMethod ({ cls := "java/lang/RuntimeException", name := "<init>", desc := "()V" } : Jvm.MethodName)) ∈ zT := zj_in5 (i := 200) rfl rfl
theorem zw_5_191 : (Jvm.Cond.code ({ cls := "java/lang/RuntimeException", name := "<init>", desc := "()V" } : Jvm.MethodName) prog_21_method_1_code (1 : Nat) (Option.none : Option Jvm.ClassFile.FieldType)) ∈ zT := zj_in5 (i := 201) rfl rfl
theorem zw_5_192 : (Jvm.Cond.methodLink "java/lang/RuntimeException" (1 : Nat) ({ cls := "java/lang/Exception", name := "<init>", desc := "()V" } : Jvm.MethodName)) ∈ zT := zj_in5 (i := 202) rfl rfl
theorem zw_5_193 : (Jvm.Cond.instanceMethod ({ cls := "java/lang/Exception", name := "<init>", desc := "()V" } : Jvm.MethodName)) ∈ zT := zj_in5 (i := 203) rfl rfl
theorem zw_5_194 : (Jvm.Cond.code ({ cls := "java/lang/Exception", name := "<init>", desc := "()V" } : Jvm.MethodName) prog_18_method_1_code (1 : Nat) (Option.none : Option Jvm.ClassFile.FieldType)) ∈ zT := zj_in5 (i := 204) rfl rfl
theorem zw_5_195 : (Jvm.Cond.methodLink "java/lang/Exception" (1 : Nat) ({ cls := "java/lang/Throwable", name := "<init>", desc := "()V" } : Jvm.MethodName)) ∈ zT := zj_in5 (i := 205) rfl rfl
theorem zw_5_197 : (Jvm.Cond.fieldLink "java/lang/Throwable" (7 : Nat) "java/lang/Throwable" "cause" "Ljava/lang/Throwable;") ∈ zT := zj_in5 (i := 207) rfl rfl
theorem zw_5_198 : (Jvm.Cond.fieldLink "java/lang/Throwable" (17 : Nat) "java/lang/Throwable" "stackTrace" "[Ljava/lang/StackTraceElement;") ∈ zT := zj_in5 (i := 208) rfl rfl
theorem zw_5_199 : (Jvm.Cond.fieldLink "java/lang/Throwable" (24 : Nat) "java/lang/Throwable" "suppressedExceptions" "Ljava/util/List;") ∈ zT := zj_in5 (i := 209) rfl rfl
theorem zw_5_204 : (Jvm.Cond.lays "java/util/NoSuchElementException" "java/lang/Throwable" "depth" "I") ∈ zT := zj_in5 (i := 214) rfl rfl
theorem zw_5_208 : (Jvm.Cond.methodLink "RoadToPortLaw" (108 : Nat) ({ cls := "RoadToPortLaw", name := "plan", desc := "(LRoadToPort;II[J)I" } : Jvm.MethodName)) ∈ zT := zj_in5 (i := 218) rfl rfl
theorem zw_5_209 : (Jvm.Cond.static ({ cls := "RoadToPortLaw", name := "plan", desc := "(LRoadToPort;II[J)I" } : Jvm.MethodName)) ∈ zT := zj_in5 (i := 219) rfl rfl
theorem zw_5_210 : (Jvm.Cond.codeWith ({ cls := "RoadToPortLaw", name := "plan", desc := "(LRoadToPort;II[J)I" } : Jvm.MethodName) method_4_code (5 : Nat) (Option.some Jvm.ClassFile.FieldType.int) [((0 : Nat), (9 : Nat), (12 : Nat), (13 : Nat))]) ∈ zT := zj_in5 (i := 220) rfl rfl
theorem zw_5_211 : (Jvm.Cond.methodLink "RoadToPortLaw" (15 : Nat) ({ cls := "RoadToPort", name := "plan", desc := "(II)J" } : Jvm.MethodName)) ∈ zT := zj_in5 (i := 221) rfl rfl
theorem zw_5_212 : (Jvm.Cond.instanceMethod ({ cls := "RoadToPort", name := "plan", desc := "(II)J" } : Jvm.MethodName)) ∈ zT := zj_in5 (i := 222) rfl rfl
theorem zw_5_213 : (Jvm.Cond.selects "RoadToPort" ({ cls := "RoadToPort", name := "plan", desc := "(II)J" } : Jvm.MethodName) ({ cls := "RoadToPort", name := "plan", desc := "(II)J" } : Jvm.MethodName)) ∈ zT := zj_in5 (i := 223) rfl rfl
theorem zw_5_214 : (Jvm.Cond.code ({ cls := "RoadToPort", name := "plan", desc := "(II)J" } : Jvm.MethodName) prog_1_method_22_code (3 : Nat) (Option.some Jvm.ClassFile.FieldType.long)) ∈ zT := zj_in5 (i := 224) rfl rfl
theorem zw_5_215 : (Jvm.Cond.methodLink "RoadToPort" (249 : Nat) ({ cls := "RoadToPort$Planner", name := "think", desc := "(LRoadToPort$Land;LRoadToPort$Folk;I)V" } : Jvm.MethodName)) ∈ zT := zj_in5 (i := 225) rfl rfl
theorem zw_5_216 : (Jvm.Cond.instanceMethod ({ cls := "RoadToPort$Planner", name := "think", desc := "(LRoadToPort$Land;LRoadToPort$Folk;I)V" } : Jvm.MethodName)) ∈ zT := zj_in5 (i := 226) rfl rfl
theorem zw_5_217 : (Jvm.Cond.selects "RoadToPort$Planner" ({ cls := "RoadToPort$Planner", name := "think", desc := "(LRoadToPort$Land;LRoadToPort$Folk;I)V" } : Jvm.MethodName) ({ cls := "RoadToPort$Planner", name := "think", desc := "(LRoadToPort$Land;LRoadToPort$Folk;I)V" } : Jvm.MethodName)) ∈ zT := zj_in5 (i := 227) rfl rfl
theorem zw_5_218 : (Jvm.Cond.code ({ cls := "RoadToPort$Planner", name := "think", desc := "(LRoadToPort$Land;LRoadToPort$Folk;I)V" } : Jvm.MethodName) prog_8_method_3_code (12 : Nat) (Option.none : Option Jvm.ClassFile.FieldType)) ∈ zT := zj_in5 (i := 228) rfl rfl
theorem zw_5_219 : (Jvm.Cond.methodLink "RoadToPort$Planner" (35 : Nat) ({ cls := "RoadToPort$Folk", name := "daysYet", desc := "(I)I" } : Jvm.MethodName)) ∈ zT := zj_in5 (i := 229) rfl rfl
theorem zw_5_231 : (Jvm.Cond.methodLink "RoadToPort$Planner" (41 : Nat) ({ cls := "java/lang/Math", name := "min", desc := "(II)I" } : Jvm.MethodName)) ∈ zT := zj_in5 (i := 230) rfl rfl
theorem zw_5_221 : (Jvm.Cond.methodLink "RoadToPort$Planner" (47 : Nat) ({ cls := "RoadToPort$Folk", name := "allMiles", desc := "(LRoadToPort$Land;I)I" } : Jvm.MethodName)) ∈ zT := zj_in5 (i := 231) rfl rfl
theorem zw_5_220 : (Jvm.Cond.methodLink "RoadToPort$Planner" (51 : Nat) ({ cls := "RoadToPort$Folk", name := "of", desc := "(II)I" } : Jvm.MethodName)) ∈ zT := zj_in5 (i := 232) rfl rfl
theorem zw_5_222 : (Jvm.Cond.methodLink "RoadToPort$Planner" (56 : Nat) ({ cls := "RoadToPort$Land", name := "ofMan", desc := "(II)I" } : Jvm.MethodName)) ∈ zT := zj_in5 (i := 233) rfl rfl
theorem zw_5_223 : (Jvm.Cond.methodLink "RoadToPort$Planner" (59 : Nat) ({ cls := "RoadToPort$Planner", name := "weighMilestones", desc := "(LRoadToPort$Land;LRoadToPort$Folk;I)V" } : Jvm.MethodName)) ∈ zT := zj_in5 (i := 234) rfl rfl
theorem zw_5_225 : (Jvm.Cond.instanceMethod ({ cls := "RoadToPort$Planner", name := "weighMilestones", desc := "(LRoadToPort$Land;LRoadToPort$Folk;I)V" } : Jvm.MethodName)) ∈ zT := zj_in5 (i := 236) rfl rfl
theorem zw_5_226 : (Jvm.Cond.code ({ cls := "RoadToPort$Planner", name := "weighMilestones", desc := "(LRoadToPort$Land;LRoadToPort$Folk;I)V" } : Jvm.MethodName) prog_8_method_5_code (11 : Nat) (Option.none : Option Jvm.ClassFile.FieldType)) ∈ zT := zj_in5 (i := 237) rfl rfl
theorem zw_5_227 : (Jvm.Cond.methodLink "RoadToPort$Planner" (80 : Nat) ({ cls := "RoadToPort$Land", name := "roadToward", desc := "(II)I" } : Jvm.MethodName)) ∈ zT := zj_in5 (i := 238) rfl rfl
theorem zw_5_228 : (Jvm.Cond.methodLink "RoadToPort$Planner" (83 : Nat) ({ cls := "RoadToPort$Land", name := "ofRoad", desc := "(II)I" } : Jvm.MethodName)) ∈ zT := zj_in5 (i := 239) rfl rfl
theorem zw_5_229 : (Jvm.Cond.methodLink "RoadToPort$Planner" (86 : Nat) ({ cls := "RoadToPort$Folk", name := "dangerFor", desc := "(LRoadToPort$Land;II)I" } : Jvm.MethodName)) ∈ zT := zj_in6 (i := 0) rfl rfl
theorem zw_5_230 : (Jvm.Cond.methodLink "RoadToPort$Planner" (90 : Nat) ({ cls := "RoadToPort$Land", name := "nextTo", desc := "(II)I" } : Jvm.MethodName)) ∈ zT := zj_in6 (i := 1) rfl rfl
theorem zw_5_232 : (Jvm.Cond.methodLink "RoadToPort$Planner" (63 : Nat) ({ cls := "RoadToPort$Planner", name := "weighDay", desc := "(IIIII)V" } : Jvm.MethodName)) ∈ zT := zj_in6 (i := 2) rfl rfl
theorem zw_5_234 : (Jvm.Cond.instanceMethod ({ cls := "RoadToPort$Planner", name := "weighDay", desc := "(IIIII)V" } : Jvm.MethodName)) ∈ zT := zj_in6 (i := 4) rfl rfl
theorem zw_5_235 : (Jvm.Cond.code ({ cls := "RoadToPort$Planner", name := "weighDay", desc := "(IIIII)V" } : Jvm.MethodName) prog_8_method_6_code (10 : Nat) (Option.none : Option Jvm.ClassFile.FieldType)) ∈ zT := zj_in6 (i := 5) rfl rfl
theorem zw_5_236 : (Jvm.Cond.methodLink "RoadToPort$Planner" (93 : Nat) ({ cls := "RoadToPort$Planner", name := "worth", desc := "(III)J" } : Jvm.MethodName)) ∈ zT := zj_in6 (i := 6) rfl rfl
theorem zw_5_238 : (Jvm.Cond.instanceMethod ({ cls := "RoadToPort$Planner", name := "worth", desc := "(III)J" } : Jvm.MethodName)) ∈ zT := zj_in6 (i := 8) rfl rfl
theorem zw_5_239 : (Jvm.Cond.code ({ cls := "RoadToPort$Planner", name := "worth", desc := "(III)J" } : Jvm.MethodName) prog_8_method_7_code (4 : Nat) (Option.some Jvm.ClassFile.FieldType.long)) ∈ zT := zj_in6 (i := 9) rfl rfl
theorem zw_6_0 : (Jvm.Cond.methodLink "RoadToPort$Planner" (67 : Nat) ({ cls := "RoadToPort$Planner", name := "index", desc := "(II)I" } : Jvm.MethodName)) ∈ zT := zj_in6 (i := 10) rfl rfl
theorem zw_6_1 : (Jvm.Cond.static ({ cls := "RoadToPort$Planner", name := "index", desc := "(II)I" } : Jvm.MethodName)) ∈ zT := zj_in6 (i := 11) rfl rfl
theorem zw_6_2 : (Jvm.Cond.code ({ cls := "RoadToPort$Planner", name := "index", desc := "(II)I" } : Jvm.MethodName) prog_8_method_4_code (2 : Nat) (Option.some Jvm.ClassFile.FieldType.int)) ∈ zT := zj_in6 (i := 12) rfl rfl
theorem zw_6_3 : (Jvm.Cond.methodLink "RoadToPort$Planner" (97 : Nat) ({ cls := "java/lang/Math", name := "max", desc := "(JJ)J" } : Jvm.MethodName)) ∈ zT := zj_in6 (i := 13) rfl rfl
theorem zw_6_4 : (Jvm.Cond.static ({ cls := "java/lang/Math", name := "max", desc := "(JJ)J" } : Jvm.MethodName)) ∈ zT := zj_in6 (i := 14) rfl rfl
theorem zw_6_5 : (Jvm.Cond.code ({ cls := "java/lang/Math", name := "max", desc := "(JJ)J" } : Jvm.MethodName) prog_20_method_66_code (4 : Nat) (Option.some Jvm.ClassFile.FieldType.long)) ∈ zT := zj_in6 (i := 15) rfl rfl
theorem zw_6_6 : (Jvm.Cond.constantLong "RoadToPort$Planner" (70 : Nat) (12 : Int64)) ∈ zT := zj_in6 (i := 16) rfl rfl
theorem zw_6_7 : (Jvm.Cond.methodLink "RoadToPort$Planner" (72 : Nat) ({ cls := "RoadToPort$Planner", name := "choose", desc := "(IIIIZ)V" } : Jvm.MethodName)) ∈ zT := zj_in6 (i := 17) rfl rfl
theorem zw_6_9 : (Jvm.Cond.instanceMethod ({ cls := "RoadToPort$Planner", name := "choose", desc := "(IIIIZ)V" } : Jvm.MethodName)) ∈ zT := zj_in6 (i := 19) rfl rfl
theorem zw_6_10 : (Jvm.Cond.code ({ cls := "RoadToPort$Planner", name := "choose", desc := "(IIIIZ)V" } : Jvm.MethodName) prog_8_method_8_code (11 : Nat) (Option.none : Option Jvm.ClassFile.FieldType)) ∈ zT := zj_in6 (i := 20) rfl rfl
theorem zw_6_12 : (Jvm.Cond.static ({ cls := "RoadToPort", name := "commonDivisor", desc := "(JJ)J" } : Jvm.MethodName)) ∈ zT := zj_in6 (i := 22) rfl rfl
theorem zw_6_13 : (Jvm.Cond.code ({ cls := "RoadToPort", name := "commonDivisor", desc := "(JJ)J" } : Jvm.MethodName) prog_1_method_44_code (11 : Nat) (Option.some Jvm.ClassFile.FieldType.long)) ∈ zT := zj_in6 (i := 23) rfl rfl
theorem zw_6_14 : (Jvm.Cond.methodLink "RoadToPortLaw" (135 : Nat) ({ cls := "RoadToPortLaw", name := "ship", desc := "(LRoadToPort;III[J)I" } : Jvm.MethodName)) ∈ zT := zj_in6 (i := 24) rfl rfl
theorem zw_6_15 : (Jvm.Cond.static ({ cls := "RoadToPortLaw", name := "ship", desc := "(LRoadToPort;III[J)I" } : Jvm.MethodName)) ∈ zT := zj_in6 (i := 25) rfl rfl
theorem zw_6_16 : (Jvm.Cond.codeWith ({ cls := "RoadToPortLaw", name := "ship", desc := "(LRoadToPort;III[J)I" } : Jvm.MethodName) method_5_code (6 : Nat) (Option.some Jvm.ClassFile.FieldType.int) [((0 : Nat), (12 : Nat), (15 : Nat), (13 : Nat))]) ∈ zT := zj_in6 (i := 26) rfl rfl
theorem zw_6_17 : (Jvm.Cond.methodLink "RoadToPortLaw" (19 : Nat) ({ cls := "RoadToPort", name := "ship", desc := "(III)I" } : Jvm.MethodName)) ∈ zT := zj_in6 (i := 27) rfl rfl
theorem zw_6_18 : (Jvm.Cond.instanceMethod ({ cls := "RoadToPort", name := "ship", desc := "(III)I" } : Jvm.MethodName)) ∈ zT := zj_in6 (i := 28) rfl rfl
theorem zw_6_19 : (Jvm.Cond.selects "RoadToPort" ({ cls := "RoadToPort", name := "ship", desc := "(III)I" } : Jvm.MethodName) ({ cls := "RoadToPort", name := "ship", desc := "(III)I" } : Jvm.MethodName)) ∈ zT := zj_in6 (i := 29) rfl rfl
theorem zw_6_20 : (Jvm.Cond.code ({ cls := "RoadToPort", name := "ship", desc := "(III)I" } : Jvm.MethodName) prog_1_method_29_code (12 : Nat) (Option.some Jvm.ClassFile.FieldType.int)) ∈ zT := zj_in6 (i := 30) rfl rfl
theorem zw_6_21 : (Jvm.Cond.constantLong "RoadToPort" (279 : Nat) (12 : Int64)) ∈ zT := zj_in6 (i := 31) rfl rfl
theorem zw_6_22 : (Jvm.Cond.methodLink "RoadToPort" (281 : Nat) ({ cls := "RoadToPort", name := "commonDivisor", desc := "(JJ)J" } : Jvm.MethodName)) ∈ zT := zj_in6 (i := 32) rfl rfl
theorem zw_6_23 : (Jvm.Cond.classLink "RoadToPortLaw" (24 : Nat) "RoadToPortModel") ∈ zT := zj_in6 (i := 33) rfl rfl
theorem zw_6_24 : (Jvm.Cond.instantiable "RoadToPortModel" (54 : Nat)) ∈ zT := zj_in6 (i := 34) rfl rfl
theorem zw_6_25 : (Jvm.Cond.methodLink "RoadToPortLaw" (26 : Nat) ({ cls := "RoadToPortModel", name := "<init>", desc := "()V" } : Jvm.MethodName)) ∈ zT := zj_in6 (i := 35) rfl rfl
theorem zw_6_26 : (Jvm.Cond.instanceMethod ({ cls := "RoadToPortModel", name := "<init>", desc := "()V" } : Jvm.MethodName)) ∈ zT := zj_in6 (i := 36) rfl rfl
theorem zw_6_27 : (Jvm.Cond.code ({ cls := "RoadToPortModel", name := "<init>", desc := "()V" } : Jvm.MethodName) prog_14_method_1_code (1 : Nat) (Option.none : Option Jvm.ClassFile.FieldType)) ∈ zT := zj_in6 (i := 37) rfl rfl
theorem zw_6_28 : (Jvm.Cond.methodLink "RoadToPortModel" (1 : Nat) ({ cls := "java/lang/Object", name := "<init>", desc := "()V" } : Jvm.MethodName)) ∈ zT := zj_in6 (i := 38) rfl rfl
theorem zw_6_29 : (Jvm.Cond.fieldLink "RoadToPortModel" (91 : Nat) "RoadToPortModel" "thrown" "I") ∈ zT := zj_in6 (i := 39) rfl rfl
theorem zw_6_30 : (Jvm.Cond.fieldLink "RoadToPortModel" (7 : Nat) "RoadToPortModel" "tape" "[I") ∈ zT := zj_in6 (i := 40) rfl rfl
theorem zw_6_31 : (Jvm.Cond.fieldLink "RoadToPortModel" (94 : Nat) "RoadToPortModel" "taped" "I") ∈ zT := zj_in6 (i := 41) rfl rfl
theorem zw_6_32 : (Jvm.Cond.fieldLink "RoadToPortModel" (101 : Nat) "RoadToPortModel" "size" "I") ∈ zT := zj_in6 (i := 42) rfl rfl
theorem zw_6_33 : (Jvm.Cond.fieldLink "RoadToPortModel" (110 : Nat) "RoadToPortModel" "limit" "I") ∈ zT := zj_in6 (i := 43) rfl rfl
theorem zw_6_34 : (Jvm.Cond.fieldLink "RoadToPortModel" (104 : Nat) "RoadToPortModel" "to" "I") ∈ zT := zj_in6 (i := 44) rfl rfl
theorem zw_6_35 : (Jvm.Cond.fieldLink "RoadToPortModel" (107 : Nat) "RoadToPortModel" "from" "I") ∈ zT := zj_in6 (i := 45) rfl rfl
theorem zw_6_36 : (Jvm.Cond.fieldLink "RoadToPortModel" (113 : Nat) "RoadToPortModel" "kind" "I") ∈ zT := zj_in6 (i := 46) rfl rfl
theorem zw_6_37 : (Jvm.Cond.fieldLink "RoadToPortModel" (130 : Nat) "RoadToPortModel" "number" "I") ∈ zT := zj_in6 (i := 47) rfl rfl
theorem zw_6_38 : (Jvm.Cond.fieldLink "RoadToPortModel" (123 : Nat) "RoadToPortModel" "sign" "I") ∈ zT := zj_in6 (i := 48) rfl rfl
theorem zw_6_39 : (Jvm.Cond.fieldLink "RoadToPortModel" (149 : Nat) "RoadToPortModel" "fault" "I") ∈ zT := zj_in6 (i := 49) rfl rfl
theorem zw_6_40 : (Jvm.Cond.fieldLink "RoadToPortModel" (152 : Nat) "RoadToPortModel" "place" "I") ∈ zT := zj_in6 (i := 50) rfl rfl
theorem zw_6_41 : (Jvm.Cond.fieldLink "RoadToPortModel" (126 : Nat) "RoadToPortModel" "word" "J") ∈ zT := zj_in6 (i := 51) rfl rfl
theorem zw_6_42 : (Jvm.Cond.fieldLink "RoadToPortModel" (162 : Nat) "RoadToPortModel" "told" "I") ∈ zT := zj_in6 (i := 52) rfl rfl
theorem zw_6_43 : (Jvm.Cond.fieldLink "RoadToPortModel" (13 : Nat) "RoadToPortModel" "now" "[I") ∈ zT := zj_in6 (i := 53) rfl rfl
theorem zw_6_44 : (Jvm.Cond.fieldLink "RoadToPortModel" (16 : Nat) "RoadToPortModel" "read" "[I") ∈ zT := zj_in6 (i := 54) rfl rfl
theorem zw_6_45 : (Jvm.Cond.fieldLink "RoadToPortModel" (19 : Nat) "RoadToPortModel" "kept" "[I") ∈ zT := zj_in6 (i := 55) rfl rfl
theorem zw_6_46 : (Jvm.Cond.fieldLink "RoadToPortModel" (22 : Nat) "RoadToPortModel" "snaps" "[I") ∈ zT := zj_in6 (i := 56) rfl rfl
theorem zw_6_47 : (Jvm.Cond.fieldLink "RoadToPortModel" (25 : Nat) "RoadToPortModel" "aside" "[I") ∈ zT := zj_in6 (i := 57) rfl rfl
theorem zw_6_48 : (Jvm.Cond.fieldLink "RoadToPortModel" (28 : Nat) "RoadToPortModel" "name" "[J") ∈ zT := zj_in6 (i := 58) rfl rfl
theorem zw_6_49 : (Jvm.Cond.fieldLink "RoadToPortModel" (32 : Nat) "RoadToPortModel" "readName" "[J") ∈ zT := zj_in6 (i := 59) rfl rfl
theorem zw_6_50 : (Jvm.Cond.fieldLink "RoadToPortModel" (35 : Nat) "RoadToPortModel" "keptName" "[J") ∈ zT := zj_in6 (i := 60) rfl rfl
theorem zw_6_51 : (Jvm.Cond.fieldLink "RoadToPortModel" (38 : Nat) "RoadToPortModel" "isKept" "[Z") ∈ zT := zj_in6 (i := 61) rfl rfl
theorem zw_6_52 : (Jvm.Cond.fieldLink "RoadToPortModel" (241 : Nat) "RoadToPortModel" "snapMany" "I") ∈ zT := zj_in6 (i := 62) rfl rfl
theorem zw_6_53 : (Jvm.Cond.fieldLink "RoadToPortModel" (247 : Nat) "RoadToPortModel" "roadThere" "I") ∈ zT := zj_in6 (i := 63) rfl rfl
theorem zw_6_54 : (Jvm.Cond.fieldLink "RoadToPortModel" (256 : Nat) "RoadToPortModel" "placeThere" "I") ∈ zT := zj_in6 (i := 64) rfl rfl
theorem zw_6_55 : (Jvm.Cond.fieldLink "RoadToPortModel" (311 : Nat) "RoadToPortModel" "seed" "I") ∈ zT := zj_in6 (i := 65) rfl rfl
theorem zw_6_56 : (Jvm.Cond.fieldLink "RoadToPortModel" (42 : Nat) "RoadToPortModel" "going" "[I") ∈ zT := zj_in6 (i := 66) rfl rfl
theorem zw_6_57 : (Jvm.Cond.fieldLink "RoadToPortModel" (336 : Nat) "RoadToPortModel" "goingMany" "I") ∈ zT := zj_in6 (i := 67) rfl rfl
theorem zw_6_58 : (Jvm.Cond.fieldLink "RoadToPortModel" (45 : Nat) "RoadToPortModel" "chance" "[J") ∈ zT := zj_in6 (i := 68) rfl rfl
theorem zw_6_59 : (Jvm.Cond.fieldLink "RoadToPortModel" (48 : Nat) "RoadToPortModel" "twelves" "[J") ∈ zT := zj_in6 (i := 69) rfl rfl
theorem zw_6_60 : (Jvm.Cond.fieldLink "RoadToPortModel" (51 : Nat) "RoadToPortModel" "planned" "[I") ∈ zT := zj_in6 (i := 70) rfl rfl
theorem zw_6_61 : (Jvm.Cond.fieldLink "RoadToPortModel" (54 : Nat) "RoadToPortModel" "lives" "[I") ∈ zT := zj_in6 (i := 71) rfl rfl
theorem zw_6_62 : (Jvm.Cond.fieldLink "RoadToPortModel" (351 : Nat) "RoadToPortModel" "planLong" "I") ∈ zT := zj_in6 (i := 72) rfl rfl
theorem zw_6_63 : (Jvm.Cond.fieldLink "RoadToPortModel" (57 : Nat) "RoadToPortModel" "giving" "[I") ∈ zT := zj_in6 (i := 73) rfl rfl
theorem zw_6_64 : (Jvm.Cond.fieldLink "RoadToPortModel" (60 : Nat) "RoadToPortModel" "given" "[I") ∈ zT := zj_in6 (i := 74) rfl rfl
theorem zw_6_65 : (Jvm.Cond.fieldLink "RoadToPortModel" (63 : Nat) "RoadToPortModel" "held" "[I") ∈ zT := zj_in6 (i := 75) rfl rfl
theorem zw_6_66 : (Jvm.Cond.fieldLink "RoadToPortModel" (358 : Nat) "RoadToPortModel" "sentLeast" "I") ∈ zT := zj_in6 (i := 76) rfl rfl
theorem zw_6_67 : (Jvm.Cond.fieldLink "RoadToPortModel" (364 : Nat) "RoadToPortModel" "hasSent" "Z") ∈ zT := zj_in6 (i := 77) rfl rfl
theorem zw_6_68 : (Jvm.Cond.fieldLink "RoadToPortModel" (66 : Nat) "RoadToPortModel" "spare" "[I") ∈ zT := zj_in6 (i := 78) rfl rfl
theorem zw_6_69 : (Jvm.Cond.fieldLink "RoadToPortModel" (69 : Nat) "RoadToPortModel" "cutting" "I") ∈ zT := zj_in6 (i := 79) rfl rfl
theorem zw_6_70 : (Jvm.Cond.fieldLink "RoadToPortModel" (73 : Nat) "RoadToPortModel" "turnedLeast" "I") ∈ zT := zj_in6 (i := 80) rfl rfl
theorem zw_6_71 : (Jvm.Cond.fieldLink "RoadToPortModel" (76 : Nat) "RoadToPortModel" "turnedGreatest" "I") ∈ zT := zj_in6 (i := 81) rfl rfl
theorem zw_6_72 : (Jvm.Cond.fieldLink "RoadToPortModel" (79 : Nat) "RoadToPortModel" "text" "[I") ∈ zT := zj_in6 (i := 82) rfl rfl
theorem zw_6_73 : (Jvm.Cond.fieldLink "RoadToPortModel" (381 : Nat) "RoadToPortModel" "texts" "I") ∈ zT := zj_in6 (i := 83) rfl rfl
theorem zw_6_74 : (Jvm.Cond.fieldLink "RoadToPortModel" (82 : Nat) "RoadToPortModel" "line" "[I") ∈ zT := zj_in6 (i := 84) rfl rfl
theorem zw_6_75 : (Jvm.Cond.fieldLink "RoadToPortModel" (85 : Nat) "RoadToPortModel" "written" "[I") ∈ zT := zj_in6 (i := 85) rfl rfl
theorem zw_6_76 : (Jvm.Cond.fieldLink "RoadToPortModel" (409 : Nat) "RoadToPortModel" "lineMany" "I") ∈ zT := zj_in6 (i := 86) rfl rfl
theorem zw_6_77 : (Jvm.Cond.fieldLink "RoadToPortModel" (421 : Nat) "RoadToPortModel" "hasWritten" "Z") ∈ zT := zj_in6 (i := 87) rfl rfl
theorem zw_6_78 : (Jvm.Cond.fieldLink "RoadToPortModel" (88 : Nat) "RoadToPortModel" "node" "[I") ∈ zT := zj_in6 (i := 88) rfl rfl
theorem zw_6_79 : (Jvm.Cond.fieldLink "RoadToPortModel" (428 : Nat) "RoadToPortModel" "nodes" "I") ∈ zT := zj_in6 (i := 89) rfl rfl
theorem zw_6_80 : (Jvm.Cond.fieldLink "RoadToPortModel" (443 : Nat) "RoadToPortModel" "onesMany" "I") ∈ zT := zj_in6 (i := 90) rfl rfl
theorem zw_6_81 : (Jvm.Cond.fieldLink "RoadToPortModel" (446 : Nat) "RoadToPortModel" "within" "I") ∈ zT := zj_in6 (i := 91) rfl rfl
theorem zw_6_82 : (Jvm.Cond.fieldLink "RoadToPortModel" (434 : Nat) "RoadToPortModel" "top" "I") ∈ zT := zj_in6 (i := 92) rfl rfl
theorem zw_6_83 : (Jvm.Cond.lays "RoadToPortModel" "RoadToPortModel" "thrown" "I") ∈ zT := zj_in6 (i := 93) rfl rfl
theorem zw_6_85 : (Jvm.Cond.laysFinal "RoadToPortModel" "RoadToPortModel" "tape" "[I") ∈ zT := zj_in6 (i := 95) rfl rfl
theorem zw_6_87 : (Jvm.Cond.lays "RoadToPortModel" "RoadToPortModel" "taped" "I") ∈ zT := zj_in6 (i := 97) rfl rfl
theorem zw_6_89 : (Jvm.Cond.lays "RoadToPortModel" "RoadToPortModel" "size" "I") ∈ zT := zj_in6 (i := 99) rfl rfl
theorem zw_6_91 : (Jvm.Cond.lays "RoadToPortModel" "RoadToPortModel" "limit" "I") ∈ zT := zj_in6 (i := 101) rfl rfl
theorem zw_6_93 : (Jvm.Cond.lays "RoadToPortModel" "RoadToPortModel" "to" "I") ∈ zT := zj_in6 (i := 103) rfl rfl
theorem zw_6_95 : (Jvm.Cond.lays "RoadToPortModel" "RoadToPortModel" "from" "I") ∈ zT := zj_in6 (i := 105) rfl rfl
theorem zw_6_97 : (Jvm.Cond.lays "RoadToPortModel" "RoadToPortModel" "kind" "I") ∈ zT := zj_in6 (i := 107) rfl rfl
theorem zw_6_99 : (Jvm.Cond.lays "RoadToPortModel" "RoadToPortModel" "number" "I") ∈ zT := zj_in6 (i := 109) rfl rfl
theorem zw_6_101 : (Jvm.Cond.lays "RoadToPortModel" "RoadToPortModel" "sign" "I") ∈ zT := zj_in6 (i := 111) rfl rfl
theorem zw_6_103 : (Jvm.Cond.lays "RoadToPortModel" "RoadToPortModel" "fault" "I") ∈ zT := zj_in6 (i := 113) rfl rfl
theorem zw_6_105 : (Jvm.Cond.lays "RoadToPortModel" "RoadToPortModel" "place" "I") ∈ zT := zj_in6 (i := 115) rfl rfl
theorem zw_6_107 : (Jvm.Cond.lays "RoadToPortModel" "RoadToPortModel" "word" "J") ∈ zT := zj_in6 (i := 117) rfl rfl
theorem zw_6_109 : (Jvm.Cond.lays "RoadToPortModel" "RoadToPortModel" "told" "I") ∈ zT := zj_in6 (i := 119) rfl rfl
theorem zw_6_111 : (Jvm.Cond.laysFinal "RoadToPortModel" "RoadToPortModel" "now" "[I") ∈ zT := zj_in6 (i := 121) rfl rfl
theorem zw_6_113 : (Jvm.Cond.laysFinal "RoadToPortModel" "RoadToPortModel" "read" "[I") ∈ zT := zj_in6 (i := 123) rfl rfl
theorem zw_6_115 : (Jvm.Cond.laysFinal "RoadToPortModel" "RoadToPortModel" "kept" "[I") ∈ zT := zj_in6 (i := 125) rfl rfl
theorem zw_6_117 : (Jvm.Cond.laysFinal "RoadToPortModel" "RoadToPortModel" "snaps" "[I") ∈ zT := zj_in6 (i := 127) rfl rfl
theorem zw_6_119 : (Jvm.Cond.laysFinal "RoadToPortModel" "RoadToPortModel" "aside" "[I") ∈ zT := zj_in6 (i := 129) rfl rfl
theorem zw_6_121 : (Jvm.Cond.laysFinal "RoadToPortModel" "RoadToPortModel" "name" "[J") ∈ zT := zj_in6 (i := 131) rfl rfl
theorem zw_6_123 : (Jvm.Cond.laysFinal "RoadToPortModel" "RoadToPortModel" "readName" "[J") ∈ zT := zj_in6 (i := 133) rfl rfl
theorem zw_6_125 : (Jvm.Cond.laysFinal "RoadToPortModel" "RoadToPortModel" "keptName" "[J") ∈ zT := zj_in6 (i := 135) rfl rfl
theorem zw_6_127 : (Jvm.Cond.laysFinal "RoadToPortModel" "RoadToPortModel" "isKept" "[Z") ∈ zT := zj_in6 (i := 137) rfl rfl
theorem zw_6_129 : (Jvm.Cond.lays "RoadToPortModel" "RoadToPortModel" "snapMany" "I") ∈ zT := zj_in6 (i := 139) rfl rfl
theorem zw_6_131 : (Jvm.Cond.lays "RoadToPortModel" "RoadToPortModel" "roadThere" "I") ∈ zT := zj_in6 (i := 141) rfl rfl
theorem zw_6_133 : (Jvm.Cond.lays "RoadToPortModel" "RoadToPortModel" "placeThere" "I") ∈ zT := zj_in6 (i := 143) rfl rfl
theorem zw_6_135 : (Jvm.Cond.lays "RoadToPortModel" "RoadToPortModel" "seed" "I") ∈ zT := zj_in6 (i := 145) rfl rfl
theorem zw_6_137 : (Jvm.Cond.laysFinal "RoadToPortModel" "RoadToPortModel" "going" "[I") ∈ zT := zj_in6 (i := 147) rfl rfl
theorem zw_6_139 : (Jvm.Cond.lays "RoadToPortModel" "RoadToPortModel" "goingMany" "I") ∈ zT := zj_in6 (i := 149) rfl rfl
theorem zw_6_141 : (Jvm.Cond.laysFinal "RoadToPortModel" "RoadToPortModel" "chance" "[J") ∈ zT := zj_in6 (i := 151) rfl rfl
theorem zw_6_143 : (Jvm.Cond.laysFinal "RoadToPortModel" "RoadToPortModel" "twelves" "[J") ∈ zT := zj_in6 (i := 153) rfl rfl
theorem zw_6_145 : (Jvm.Cond.laysFinal "RoadToPortModel" "RoadToPortModel" "planned" "[I") ∈ zT := zj_in6 (i := 155) rfl rfl
theorem zw_6_147 : (Jvm.Cond.laysFinal "RoadToPortModel" "RoadToPortModel" "lives" "[I") ∈ zT := zj_in6 (i := 157) rfl rfl
theorem zw_6_149 : (Jvm.Cond.lays "RoadToPortModel" "RoadToPortModel" "planLong" "I") ∈ zT := zj_in6 (i := 159) rfl rfl
theorem zw_6_151 : (Jvm.Cond.laysFinal "RoadToPortModel" "RoadToPortModel" "giving" "[I") ∈ zT := zj_in6 (i := 161) rfl rfl
theorem zw_6_153 : (Jvm.Cond.laysFinal "RoadToPortModel" "RoadToPortModel" "given" "[I") ∈ zT := zj_in6 (i := 163) rfl rfl
theorem zw_6_155 : (Jvm.Cond.laysFinal "RoadToPortModel" "RoadToPortModel" "held" "[I") ∈ zT := zj_in6 (i := 165) rfl rfl
theorem zw_6_157 : (Jvm.Cond.lays "RoadToPortModel" "RoadToPortModel" "sentLeast" "I") ∈ zT := zj_in6 (i := 167) rfl rfl
theorem zw_6_159 : (Jvm.Cond.lays "RoadToPortModel" "RoadToPortModel" "hasSent" "Z") ∈ zT := zj_in6 (i := 169) rfl rfl
theorem zw_6_161 : (Jvm.Cond.laysFinal "RoadToPortModel" "RoadToPortModel" "spare" "[I") ∈ zT := zj_in6 (i := 171) rfl rfl
theorem zw_6_163 : (Jvm.Cond.lays "RoadToPortModel" "RoadToPortModel" "cutting" "I") ∈ zT := zj_in6 (i := 173) rfl rfl
theorem zw_6_165 : (Jvm.Cond.lays "RoadToPortModel" "RoadToPortModel" "turnedLeast" "I") ∈ zT := zj_in6 (i := 175) rfl rfl
theorem zw_6_167 : (Jvm.Cond.lays "RoadToPortModel" "RoadToPortModel" "turnedGreatest" "I") ∈ zT := zj_in6 (i := 177) rfl rfl
theorem zw_6_169 : (Jvm.Cond.laysFinal "RoadToPortModel" "RoadToPortModel" "text" "[I") ∈ zT := zj_in6 (i := 179) rfl rfl
theorem zw_6_171 : (Jvm.Cond.lays "RoadToPortModel" "RoadToPortModel" "texts" "I") ∈ zT := zj_in6 (i := 181) rfl rfl
theorem zw_6_173 : (Jvm.Cond.laysFinal "RoadToPortModel" "RoadToPortModel" "line" "[I") ∈ zT := zj_in6 (i := 183) rfl rfl
theorem zw_6_175 : (Jvm.Cond.laysFinal "RoadToPortModel" "RoadToPortModel" "written" "[I") ∈ zT := zj_in6 (i := 185) rfl rfl
theorem zw_6_177 : (Jvm.Cond.lays "RoadToPortModel" "RoadToPortModel" "lineMany" "I") ∈ zT := zj_in6 (i := 187) rfl rfl
theorem zw_6_179 : (Jvm.Cond.lays "RoadToPortModel" "RoadToPortModel" "hasWritten" "Z") ∈ zT := zj_in6 (i := 189) rfl rfl
theorem zw_6_181 : (Jvm.Cond.laysFinal "RoadToPortModel" "RoadToPortModel" "node" "[I") ∈ zT := zj_in6 (i := 191) rfl rfl
theorem zw_6_183 : (Jvm.Cond.lays "RoadToPortModel" "RoadToPortModel" "nodes" "I") ∈ zT := zj_in6 (i := 193) rfl rfl
theorem zw_6_185 : (Jvm.Cond.lays "RoadToPortModel" "RoadToPortModel" "onesMany" "I") ∈ zT := zj_in6 (i := 195) rfl rfl
theorem zw_6_187 : (Jvm.Cond.lays "RoadToPortModel" "RoadToPortModel" "within" "I") ∈ zT := zj_in6 (i := 197) rfl rfl
theorem zw_6_189 : (Jvm.Cond.lays "RoadToPortModel" "RoadToPortModel" "top" "I") ∈ zT := zj_in6 (i := 199) rfl rfl
theorem zw_6_192 : (Jvm.Cond.arrayClass Jvm.ClassFile.FieldType.boolean) ∈ zT := zj_in6 (i := 202) rfl rfl
theorem zw_6_193 : (Jvm.Cond.methodLink "RoadToPortLaw" (60 : Nat) ({ cls := "RoadToPortModel", name := "thrown", desc := "()I" } : Jvm.MethodName)) ∈ zT := zj_in6 (i := 203) rfl rfl
theorem zw_6_194 : (Jvm.Cond.instanceMethod ({ cls := "RoadToPortModel", name := "thrown", desc := "()I" } : Jvm.MethodName)) ∈ zT := zj_in6 (i := 204) rfl rfl
theorem zw_6_195 : (Jvm.Cond.selects "RoadToPortModel" ({ cls := "RoadToPortModel", name := "thrown", desc := "()I" } : Jvm.MethodName) ({ cls := "RoadToPortModel", name := "thrown", desc := "()I" } : Jvm.MethodName)) ∈ zT := zj_in6 (i := 205) rfl rfl
theorem zw_6_196 : (Jvm.Cond.code ({ cls := "RoadToPortModel", name := "thrown", desc := "()I" } : Jvm.MethodName) prog_14_method_2_code (1 : Nat) (Option.some Jvm.ClassFile.FieldType.int)) ∈ zT := zj_in6 (i := 206) rfl rfl
theorem zw_6_197 : (Jvm.Cond.methodLink "RoadToPortLaw" (31 : Nat) ({ cls := "RoadToPortModel", name := "feed", desc := "(IIIII)I" } : Jvm.MethodName)) ∈ zT := zj_in6 (i := 207) rfl rfl
theorem zw_6_198 : (Jvm.Cond.instanceMethod ({ cls := "RoadToPortModel", name := "feed", desc := "(IIIII)I" } : Jvm.MethodName)) ∈ zT := zj_in6 (i := 208) rfl rfl
theorem zw_6_199 : (Jvm.Cond.selects "RoadToPortModel" ({ cls := "RoadToPortModel", name := "feed", desc := "(IIIII)I" } : Jvm.MethodName) ({ cls := "RoadToPortModel", name := "feed", desc := "(IIIII)I" } : Jvm.MethodName)) ∈ zT := zj_in6 (i := 209) rfl rfl
theorem zw_6_200 : (Jvm.Cond.code ({ cls := "RoadToPortModel", name := "feed", desc := "(IIIII)I" } : Jvm.MethodName) prog_14_method_5_code (6 : Nat) (Option.some Jvm.ClassFile.FieldType.int)) ∈ zT := zj_in6 (i := 210) rfl rfl
theorem zw_6_201 : (Jvm.Cond.methodLink "RoadToPortModel" (97 : Nat) ({ cls := "RoadToPortModel", name := "come", desc := "(I)V" } : Jvm.MethodName)) ∈ zT := zj_in6 (i := 211) rfl rfl
theorem zw_6_203 : (Jvm.Cond.instanceMethod ({ cls := "RoadToPortModel", name := "come", desc := "(I)V" } : Jvm.MethodName)) ∈ zT := zj_in6 (i := 213) rfl rfl
theorem zw_6_204 : (Jvm.Cond.code ({ cls := "RoadToPortModel", name := "come", desc := "(I)V" } : Jvm.MethodName) prog_14_method_4_code (3 : Nat) (Option.none : Option Jvm.ClassFile.FieldType)) ∈ zT := zj_in6 (i := 214) rfl rfl
theorem zw_6_205 : (Jvm.Cond.methodLink "RoadToPortLaw" (36 : Nat) ({ cls := "RoadToPortModel", name := "end", desc := "(I)Z" } : Jvm.MethodName)) ∈ zT := zj_in6 (i := 215) rfl rfl
theorem zw_6_206 : (Jvm.Cond.instanceMethod ({ cls := "RoadToPortModel", name := "end", desc := "(I)Z" } : Jvm.MethodName)) ∈ zT := zj_in6 (i := 216) rfl rfl
theorem zw_6_207 : (Jvm.Cond.selects "RoadToPortModel" ({ cls := "RoadToPortModel", name := "end", desc := "(I)Z" } : Jvm.MethodName) ({ cls := "RoadToPortModel", name := "end", desc := "(I)Z" } : Jvm.MethodName)) ∈ zT := zj_in6 (i := 217) rfl rfl
theorem zw_6_208 : (Jvm.Cond.code ({ cls := "RoadToPortModel", name := "end", desc := "(I)Z" } : Jvm.MethodName) prog_14_method_6_code (2 : Nat) (Option.some Jvm.ClassFile.FieldType.boolean)) ∈ zT := zj_in6 (i := 218) rfl rfl
theorem zw_6_209 : (Jvm.Cond.methodLink "RoadToPortLaw" (41 : Nat) ({ cls := "RoadToPortModel", name := "land", desc := "()I" } : Jvm.MethodName)) ∈ zT := zj_in6 (i := 219) rfl rfl
theorem zw_6_210 : (Jvm.Cond.instanceMethod ({ cls := "RoadToPortModel", name := "land", desc := "()I" } : Jvm.MethodName)) ∈ zT := zj_in6 (i := 220) rfl rfl
theorem zw_6_211 : (Jvm.Cond.selects "RoadToPortModel" ({ cls := "RoadToPortModel", name := "land", desc := "()I" } : Jvm.MethodName) ({ cls := "RoadToPortModel", name := "land", desc := "()I" } : Jvm.MethodName)) ∈ zT := zj_in6 (i := 221) rfl rfl
theorem zw_6_212 : (Jvm.Cond.code ({ cls := "RoadToPortModel", name := "land", desc := "()I" } : Jvm.MethodName) prog_14_method_40_code (3 : Nat) (Option.some Jvm.ClassFile.FieldType.int)) ∈ zT := zj_in6 (i := 222) rfl rfl
theorem zw_6_213 : (Jvm.Cond.methodLink "RoadToPortModel" (226 : Nat) ({ cls := "RoadToPortModel", name := "begin", desc := "(I)V" } : Jvm.MethodName)) ∈ zT := zj_in6 (i := 223) rfl rfl
theorem zw_6_215 : (Jvm.Cond.instanceMethod ({ cls := "RoadToPortModel", name := "begin", desc := "(I)V" } : Jvm.MethodName)) ∈ zT := zj_in6 (i := 225) rfl rfl
theorem zw_6_216 : (Jvm.Cond.code ({ cls := "RoadToPortModel", name := "begin", desc := "(I)V" } : Jvm.MethodName) prog_14_method_26_code (2 : Nat) (Option.none : Option Jvm.ClassFile.FieldType)) ∈ zT := zj_in6 (i := 226) rfl rfl
theorem zw_6_217 : (Jvm.Cond.methodLink "RoadToPortModel" (171 : Nat) ({ cls := "RoadToPortModel", name := "take", desc := "()I" } : Jvm.MethodName)) ∈ zT := zj_in6 (i := 227) rfl rfl
theorem zw_6_219 : (Jvm.Cond.instanceMethod ({ cls := "RoadToPortModel", name := "take", desc := "()I" } : Jvm.MethodName)) ∈ zT := zj_in6 (i := 229) rfl rfl
theorem zw_6_220 : (Jvm.Cond.code ({ cls := "RoadToPortModel", name := "take", desc := "()I" } : Jvm.MethodName) prog_14_method_7_code (2 : Nat) (Option.some Jvm.ClassFile.FieldType.int)) ∈ zT := zj_in6 (i := 230) rfl rfl
theorem zw_6_221 : (Jvm.Cond.methodLink "RoadToPortModel" (165 : Nat) ({ cls := "RoadToPortModel", name := "go", desc := "()V" } : Jvm.MethodName)) ∈ zT := zj_in6 (i := 231) rfl rfl
theorem zw_6_223 : (Jvm.Cond.instanceMethod ({ cls := "RoadToPortModel", name := "go", desc := "()V" } : Jvm.MethodName)) ∈ zT := zj_in6 (i := 233) rfl rfl
theorem zw_6_224 : (Jvm.Cond.code ({ cls := "RoadToPortModel", name := "go", desc := "()V" } : Jvm.MethodName) prog_14_method_17_code (5 : Nat) (Option.none : Option Jvm.ClassFile.FieldType)) ∈ zT := zj_in6 (i := 234) rfl rfl
theorem zw_6_225 : (Jvm.Cond.methodLink "RoadToPortModel" (116 : Nat) ({ cls := "RoadToPortModel", name := "isLetter", desc := "(I)Z" } : Jvm.MethodName)) ∈ zT := zj_in6 (i := 235) rfl rfl
theorem zw_6_226 : (Jvm.Cond.static ({ cls := "RoadToPortModel", name := "isLetter", desc := "(I)Z" } : Jvm.MethodName)) ∈ zT := zj_in6 (i := 236) rfl rfl
theorem zw_6_227 : (Jvm.Cond.code ({ cls := "RoadToPortModel", name := "isLetter", desc := "(I)Z" } : Jvm.MethodName) prog_14_method_16_code (1 : Nat) (Option.some Jvm.ClassFile.FieldType.boolean)) ∈ zT := zj_in6 (i := 237) rfl rfl
theorem zw_6_228 : (Jvm.Cond.methodLink "RoadToPortModel" (120 : Nat) ({ cls := "RoadToPortModel", name := "isDigit", desc := "(I)Z" } : Jvm.MethodName)) ∈ zT := zj_in6 (i := 238) rfl rfl
theorem zw_6_229 : (Jvm.Cond.static ({ cls := "RoadToPortModel", name := "isDigit", desc := "(I)Z" } : Jvm.MethodName)) ∈ zT := zj_in6 (i := 239) rfl rfl
theorem zw_6_230 : (Jvm.Cond.code ({ cls := "RoadToPortModel", name := "isDigit", desc := "(I)Z" } : Jvm.MethodName) prog_14_method_15_code (1 : Nat) (Option.some Jvm.ClassFile.FieldType.boolean)) ∈ zT := zj_in7 (i := 0) rfl rfl
theorem zw_6_231 : (Jvm.Cond.methodLink "RoadToPortModel" (133 : Nat) ({ cls := "RoadToPortModel", name := "tapeAt", desc := "(I)I" } : Jvm.MethodName)) ∈ zT := zj_in7 (i := 1) rfl rfl
theorem zw_6_233 : (Jvm.Cond.instanceMethod ({ cls := "RoadToPortModel", name := "tapeAt", desc := "(I)I" } : Jvm.MethodName)) ∈ zT := zj_in7 (i := 3) rfl rfl
theorem zw_6_234 : (Jvm.Cond.code ({ cls := "RoadToPortModel", name := "tapeAt", desc := "(I)I" } : Jvm.MethodName) prog_14_method_14_code (2 : Nat) (Option.some Jvm.ClassFile.FieldType.int)) ∈ zT := zj_in7 (i := 4) rfl rfl
theorem zw_6_235 : (Jvm.Cond.constantLong "RoadToPortModel" (137 : Nat) (27 : Int64)) ∈ zT := zj_in7 (i := 5) rfl rfl
theorem zw_6_236 : (Jvm.Cond.constantLong "RoadToPortModel" (139 : Nat) (96 : Int64)) ∈ zT := zj_in7 (i := 6) rfl rfl
theorem zw_6_237 : (Jvm.Cond.methodLink "RoadToPortModel" (229 : Nat) ({ cls := "RoadToPortModel", name := "readLine", desc := "()Z" } : Jvm.MethodName)) ∈ zT := zj_in7 (i := 7) rfl rfl
theorem zw_6_239 : (Jvm.Cond.instanceMethod ({ cls := "RoadToPortModel", name := "readLine", desc := "()Z" } : Jvm.MethodName)) ∈ zT := zj_in7 (i := 9) rfl rfl
theorem zw_7_0 : (Jvm.Cond.code ({ cls := "RoadToPortModel", name := "readLine", desc := "()Z" } : Jvm.MethodName) prog_14_method_37_code (1 : Nat) (Option.some Jvm.ClassFile.FieldType.boolean)) ∈ zT := zj_in7 (i := 10) rfl rfl
theorem zw_7_1 : (Jvm.Cond.methodLink "RoadToPortModel" (200 : Nat) ({ cls := "RoadToPortModel", name := "isWord", desc := "(I)Z" } : Jvm.MethodName)) ∈ zT := zj_in7 (i := 11) rfl rfl
theorem zw_7_3 : (Jvm.Cond.instanceMethod ({ cls := "RoadToPortModel", name := "isWord", desc := "(I)Z" } : Jvm.MethodName)) ∈ zT := zj_in7 (i := 13) rfl rfl
theorem zw_7_4 : (Jvm.Cond.code ({ cls := "RoadToPortModel", name := "isWord", desc := "(I)Z" } : Jvm.MethodName) prog_14_method_20_code (2 : Nat) (Option.some Jvm.ClassFile.FieldType.boolean)) ∈ zT := zj_in7 (i := 14) rfl rfl
theorem zw_7_5 : (Jvm.Cond.methodLink "RoadToPortModel" (145 : Nat) ({ cls := "RoadToPortModel", name := "wordOf", desc := "(I)J" } : Jvm.MethodName)) ∈ zT := zj_in7 (i := 15) rfl rfl
theorem zw_7_6 : (Jvm.Cond.static ({ cls := "RoadToPortModel", name := "wordOf", desc := "(I)J" } : Jvm.MethodName)) ∈ zT := zj_in7 (i := 16) rfl rfl
theorem zw_7_7 : (Jvm.Cond.code ({ cls := "RoadToPortModel", name := "wordOf", desc := "(I)J" } : Jvm.MethodName) prog_14_method_19_code (1 : Nat) (Option.some Jvm.ClassFile.FieldType.long)) ∈ zT := zj_in7 (i := 17) rfl rfl
theorem zw_7_8 : (Jvm.Cond.methodLink "RoadToPortModel" (141 : Nat) ({ cls := "RoadToPortModel", name := "spelt", desc := "(IIIIII)J" } : Jvm.MethodName)) ∈ zT := zj_in7 (i := 18) rfl rfl
theorem zw_7_9 : (Jvm.Cond.static ({ cls := "RoadToPortModel", name := "spelt", desc := "(IIIIII)J" } : Jvm.MethodName)) ∈ zT := zj_in7 (i := 19) rfl rfl
theorem zw_7_10 : (Jvm.Cond.code ({ cls := "RoadToPortModel", name := "spelt", desc := "(IIIIII)J" } : Jvm.MethodName) prog_14_method_18_code (8 : Nat) (Option.some Jvm.ClassFile.FieldType.long)) ∈ zT := zj_in7 (i := 20) rfl rfl
theorem zw_7_11 : (Jvm.Cond.methodLink "RoadToPortModel" (206 : Nat) ({ cls := "RoadToPortModel", name := "readPlace", desc := "(I)Z" } : Jvm.MethodName)) ∈ zT := zj_in7 (i := 21) rfl rfl
theorem zw_7_13 : (Jvm.Cond.instanceMethod ({ cls := "RoadToPortModel", name := "readPlace", desc := "(I)Z" } : Jvm.MethodName)) ∈ zT := zj_in7 (i := 23) rfl rfl
theorem zw_7_14 : (Jvm.Cond.code ({ cls := "RoadToPortModel", name := "readPlace", desc := "(I)Z" } : Jvm.MethodName) prog_14_method_33_code (3 : Nat) (Option.some Jvm.ClassFile.FieldType.boolean)) ∈ zT := zj_in7 (i := 24) rfl rfl
theorem zw_7_15 : (Jvm.Cond.methodLink "RoadToPortModel" (183 : Nat) ({ cls := "RoadToPortModel", name := "readFirst", desc := "(II)Z" } : Jvm.MethodName)) ∈ zT := zj_in7 (i := 25) rfl rfl
theorem zw_7_17 : (Jvm.Cond.instanceMethod ({ cls := "RoadToPortModel", name := "readFirst", desc := "(II)Z" } : Jvm.MethodName)) ∈ zT := zj_in7 (i := 27) rfl rfl
theorem zw_7_18 : (Jvm.Cond.code ({ cls := "RoadToPortModel", name := "readFirst", desc := "(II)Z" } : Jvm.MethodName) prog_14_method_31_code (3 : Nat) (Option.some Jvm.ClassFile.FieldType.boolean)) ∈ zT := zj_in7 (i := 28) rfl rfl
theorem zw_7_19 : (Jvm.Cond.methodLink "RoadToPortModel" (155 : Nat) ({ cls := "RoadToPortModel", name := "bad", desc := "(I)Z" } : Jvm.MethodName)) ∈ zT := zj_in7 (i := 29) rfl rfl
theorem zw_7_21 : (Jvm.Cond.instanceMethod ({ cls := "RoadToPortModel", name := "bad", desc := "(I)Z" } : Jvm.MethodName)) ∈ zT := zj_in7 (i := 31) rfl rfl
theorem zw_7_22 : (Jvm.Cond.code ({ cls := "RoadToPortModel", name := "bad", desc := "(I)Z" } : Jvm.MethodName) prog_14_method_23_code (2 : Nat) (Option.some Jvm.ClassFile.FieldType.boolean)) ∈ zT := zj_in7 (i := 32) rfl rfl
theorem zw_7_23 : (Jvm.Cond.methodLink "RoadToPortModel" (187 : Nat) ({ cls := "RoadToPortModel", name := "readNew", desc := "(I)Z" } : Jvm.MethodName)) ∈ zT := zj_in7 (i := 33) rfl rfl
theorem zw_7_25 : (Jvm.Cond.instanceMethod ({ cls := "RoadToPortModel", name := "readNew", desc := "(I)Z" } : Jvm.MethodName)) ∈ zT := zj_in7 (i := 35) rfl rfl
theorem zw_7_26 : (Jvm.Cond.code ({ cls := "RoadToPortModel", name := "readNew", desc := "(I)Z" } : Jvm.MethodName) prog_14_method_29_code (2 : Nat) (Option.some Jvm.ClassFile.FieldType.boolean)) ∈ zT := zj_in7 (i := 36) rfl rfl
theorem zw_7_27 : (Jvm.Cond.methodLink "RoadToPortModel" (175 : Nat) ({ cls := "RoadToPortModel", name := "isName", desc := "()Z" } : Jvm.MethodName)) ∈ zT := zj_in7 (i := 37) rfl rfl
theorem zw_7_29 : (Jvm.Cond.instanceMethod ({ cls := "RoadToPortModel", name := "isName", desc := "()Z" } : Jvm.MethodName)) ∈ zT := zj_in7 (i := 39) rfl rfl
theorem zw_7_30 : (Jvm.Cond.code ({ cls := "RoadToPortModel", name := "isName", desc := "()Z" } : Jvm.MethodName) prog_14_method_22_code (2 : Nat) (Option.some Jvm.ClassFile.FieldType.boolean)) ∈ zT := zj_in7 (i := 40) rfl rfl
theorem zw_7_31 : (Jvm.Cond.methodLink "RoadToPortModel" (179 : Nat) ({ cls := "RoadToPortModel", name := "findIn", desc := "([JIIJ)I" } : Jvm.MethodName)) ∈ zT := zj_in7 (i := 41) rfl rfl
theorem zw_7_32 : (Jvm.Cond.static ({ cls := "RoadToPortModel", name := "findIn", desc := "([JIIJ)I" } : Jvm.MethodName)) ∈ zT := zj_in7 (i := 42) rfl rfl
theorem zw_7_33 : (Jvm.Cond.code ({ cls := "RoadToPortModel", name := "findIn", desc := "([JIIJ)I" } : Jvm.MethodName) prog_14_method_28_code (6 : Nat) (Option.some Jvm.ClassFile.FieldType.int)) ∈ zT := zj_in7 (i := 43) rfl rfl
theorem zw_7_34 : (Jvm.Cond.methodLink "RoadToPortModel" (190 : Nat) ({ cls := "RoadToPortModel", name := "readNumber", desc := "(II)Z" } : Jvm.MethodName)) ∈ zT := zj_in7 (i := 44) rfl rfl
theorem zw_7_36 : (Jvm.Cond.instanceMethod ({ cls := "RoadToPortModel", name := "readNumber", desc := "(II)Z" } : Jvm.MethodName)) ∈ zT := zj_in7 (i := 46) rfl rfl
theorem zw_7_37 : (Jvm.Cond.code ({ cls := "RoadToPortModel", name := "readNumber", desc := "(II)Z" } : Jvm.MethodName) prog_14_method_24_code (3 : Nat) (Option.some Jvm.ClassFile.FieldType.boolean)) ∈ zT := zj_in7 (i := 47) rfl rfl
theorem zw_7_38 : (Jvm.Cond.methodLink "RoadToPortModel" (158 : Nat) ({ cls := "RoadToPortModel", name := "isIn", desc := "(III)Z" } : Jvm.MethodName)) ∈ zT := zj_in7 (i := 48) rfl rfl
theorem zw_7_39 : (Jvm.Cond.static ({ cls := "RoadToPortModel", name := "isIn", desc := "(III)Z" } : Jvm.MethodName)) ∈ zT := zj_in7 (i := 49) rfl rfl
theorem zw_7_40 : (Jvm.Cond.code ({ cls := "RoadToPortModel", name := "isIn", desc := "(III)Z" } : Jvm.MethodName) prog_14_method_8_code (3 : Nat) (Option.some Jvm.ClassFile.FieldType.boolean)) ∈ zT := zj_in7 (i := 50) rfl rfl
theorem zw_7_41 : (Jvm.Cond.methodLink "RoadToPortModel" (193 : Nat) ({ cls := "RoadToPortModel", name := "put", desc := "(IZ)Z" } : Jvm.MethodName)) ∈ zT := zj_in7 (i := 51) rfl rfl
theorem zw_7_43 : (Jvm.Cond.instanceMethod ({ cls := "RoadToPortModel", name := "put", desc := "(IZ)Z" } : Jvm.MethodName)) ∈ zT := zj_in7 (i := 53) rfl rfl
theorem zw_7_44 : (Jvm.Cond.code ({ cls := "RoadToPortModel", name := "put", desc := "(IZ)Z" } : Jvm.MethodName) prog_14_method_32_code (3 : Nat) (Option.some Jvm.ClassFile.FieldType.boolean)) ∈ zT := zj_in7 (i := 54) rfl rfl
theorem zw_7_45 : (Jvm.Cond.methodLink "RoadToPortModel" (209 : Nat) ({ cls := "RoadToPortModel", name := "readRoad", desc := "()Z" } : Jvm.MethodName)) ∈ zT := zj_in7 (i := 55) rfl rfl
theorem zw_7_47 : (Jvm.Cond.instanceMethod ({ cls := "RoadToPortModel", name := "readRoad", desc := "()Z" } : Jvm.MethodName)) ∈ zT := zj_in7 (i := 57) rfl rfl
theorem zw_7_48 : (Jvm.Cond.code ({ cls := "RoadToPortModel", name := "readRoad", desc := "()Z" } : Jvm.MethodName) prog_14_method_34_code (4 : Nat) (Option.some Jvm.ClassFile.FieldType.boolean)) ∈ zT := zj_in7 (i := 58) rfl rfl
theorem zw_7_49 : (Jvm.Cond.methodLink "RoadToPortModel" (197 : Nat) ({ cls := "RoadToPortModel", name := "isOne", desc := "(II)Z" } : Jvm.MethodName)) ∈ zT := zj_in7 (i := 59) rfl rfl
theorem zw_7_51 : (Jvm.Cond.instanceMethod ({ cls := "RoadToPortModel", name := "isOne", desc := "(II)Z" } : Jvm.MethodName)) ∈ zT := zj_in7 (i := 61) rfl rfl
theorem zw_7_52 : (Jvm.Cond.code ({ cls := "RoadToPortModel", name := "isOne", desc := "(II)Z" } : Jvm.MethodName) prog_14_method_30_code (3 : Nat) (Option.some Jvm.ClassFile.FieldType.boolean)) ∈ zT := zj_in7 (i := 62) rfl rfl
theorem zw_7_53 : (Jvm.Cond.methodLink "RoadToPortModel" (212 : Nat) ({ cls := "RoadToPortModel", name := "readMan", desc := "()Z" } : Jvm.MethodName)) ∈ zT := zj_in7 (i := 63) rfl rfl
theorem zw_7_55 : (Jvm.Cond.instanceMethod ({ cls := "RoadToPortModel", name := "readMan", desc := "()Z" } : Jvm.MethodName)) ∈ zT := zj_in7 (i := 65) rfl rfl
theorem zw_7_56 : (Jvm.Cond.code ({ cls := "RoadToPortModel", name := "readMan", desc := "()Z" } : Jvm.MethodName) prog_14_method_35_code (2 : Nat) (Option.some Jvm.ClassFile.FieldType.boolean)) ∈ zT := zj_in7 (i := 66) rfl rfl
theorem zw_7_57 : (Jvm.Cond.methodLink "RoadToPortModel" (215 : Nat) ({ cls := "RoadToPortModel", name := "readKin", desc := "()Z" } : Jvm.MethodName)) ∈ zT := zj_in7 (i := 67) rfl rfl
theorem zw_7_59 : (Jvm.Cond.instanceMethod ({ cls := "RoadToPortModel", name := "readKin", desc := "()Z" } : Jvm.MethodName)) ∈ zT := zj_in7 (i := 69) rfl rfl
theorem zw_7_60 : (Jvm.Cond.code ({ cls := "RoadToPortModel", name := "readKin", desc := "()Z" } : Jvm.MethodName) prog_14_method_36_code (1 : Nat) (Option.some Jvm.ClassFile.FieldType.boolean)) ∈ zT := zj_in7 (i := 70) rfl rfl
theorem zw_7_61 : (Jvm.Cond.methodLink "RoadToPortModel" (203 : Nat) ({ cls := "RoadToPortModel", name := "has", desc := "(II)Z" } : Jvm.MethodName)) ∈ zT := zj_in7 (i := 71) rfl rfl
theorem zw_7_62 : (Jvm.Cond.static ({ cls := "RoadToPortModel", name := "has", desc := "(II)Z" } : Jvm.MethodName)) ∈ zT := zj_in7 (i := 72) rfl rfl
theorem zw_7_63 : (Jvm.Cond.code ({ cls := "RoadToPortModel", name := "has", desc := "(II)Z" } : Jvm.MethodName) prog_14_method_9_code (2 : Nat) (Option.some Jvm.ClassFile.FieldType.boolean)) ∈ zT := zj_in7 (i := 73) rfl rfl
theorem zw_7_64 : (Jvm.Cond.methodLink "RoadToPortModel" (232 : Nat) ({ cls := "RoadToPortModel", name := "readEnd", desc := "()Z" } : Jvm.MethodName)) ∈ zT := zj_in7 (i := 74) rfl rfl
theorem zw_7_66 : (Jvm.Cond.instanceMethod ({ cls := "RoadToPortModel", name := "readEnd", desc := "()Z" } : Jvm.MethodName)) ∈ zT := zj_in7 (i := 76) rfl rfl
theorem zw_7_67 : (Jvm.Cond.code ({ cls := "RoadToPortModel", name := "readEnd", desc := "()Z" } : Jvm.MethodName) prog_14_method_25_code (1 : Nat) (Option.some Jvm.ClassFile.FieldType.boolean)) ∈ zT := zj_in7 (i := 77) rfl rfl
theorem zw_7_68 : (Jvm.Cond.methodLink "RoadToPortModel" (168 : Nat) ({ cls := "RoadToPortModel", name := "isSign", desc := "(I)Z" } : Jvm.MethodName)) ∈ zT := zj_in7 (i := 78) rfl rfl
theorem zw_7_70 : (Jvm.Cond.instanceMethod ({ cls := "RoadToPortModel", name := "isSign", desc := "(I)Z" } : Jvm.MethodName)) ∈ zT := zj_in7 (i := 80) rfl rfl
theorem zw_7_71 : (Jvm.Cond.code ({ cls := "RoadToPortModel", name := "isSign", desc := "(I)Z" } : Jvm.MethodName) prog_14_method_21_code (2 : Nat) (Option.some Jvm.ClassFile.FieldType.boolean)) ∈ zT := zj_in7 (i := 81) rfl rfl
theorem zw_7_72 : (Jvm.Cond.methodLink "RoadToPortModel" (235 : Nat) ({ cls := "RoadToPortModel", name := "layWays", desc := "()V" } : Jvm.MethodName)) ∈ zT := zj_in7 (i := 82) rfl rfl
theorem zw_7_74 : (Jvm.Cond.instanceMethod ({ cls := "RoadToPortModel", name := "layWays", desc := "()V" } : Jvm.MethodName)) ∈ zT := zj_in7 (i := 84) rfl rfl
theorem zw_7_75 : (Jvm.Cond.code ({ cls := "RoadToPortModel", name := "layWays", desc := "()V" } : Jvm.MethodName) prog_14_method_39_code (5 : Nat) (Option.none : Option Jvm.ClassFile.FieldType)) ∈ zT := zj_in7 (i := 85) rfl rfl
theorem zw_7_76 : (Jvm.Cond.methodLink "RoadToPortModel" (219 : Nat) ({ cls := "RoadToPortModel", name := "roadMiles", desc := "(II)I" } : Jvm.MethodName)) ∈ zT := zj_in7 (i := 86) rfl rfl
theorem zw_7_78 : (Jvm.Cond.instanceMethod ({ cls := "RoadToPortModel", name := "roadMiles", desc := "(II)I" } : Jvm.MethodName)) ∈ zT := zj_in7 (i := 88) rfl rfl
theorem zw_7_79 : (Jvm.Cond.code ({ cls := "RoadToPortModel", name := "roadMiles", desc := "(II)I" } : Jvm.MethodName) prog_14_method_38_code (4 : Nat) (Option.some Jvm.ClassFile.FieldType.int)) ∈ zT := zj_in7 (i := 89) rfl rfl
theorem zw_7_80 : (Jvm.Cond.constant "RoadToPortModel" (218 : Nat) (100000 : Int32)) ∈ zT := zj_in7 (i := 90) rfl rfl
theorem zw_7_81 : (Jvm.Cond.methodLink "RoadToPortModel" (223 : Nat) ({ cls := "RoadToPortModel", name := "least", desc := "(II)I" } : Jvm.MethodName)) ∈ zT := zj_in7 (i := 91) rfl rfl
theorem zw_7_82 : (Jvm.Cond.static ({ cls := "RoadToPortModel", name := "least", desc := "(II)I" } : Jvm.MethodName)) ∈ zT := zj_in7 (i := 92) rfl rfl
theorem zw_7_83 : (Jvm.Cond.code ({ cls := "RoadToPortModel", name := "least", desc := "(II)I" } : Jvm.MethodName) prog_14_method_11_code (2 : Nat) (Option.some Jvm.ClassFile.FieldType.int)) ∈ zT := zj_in7 (i := 93) rfl rfl
theorem zw_7_84 : (Jvm.Cond.methodLink "RoadToPortModel" (238 : Nat) ({ cls := "RoadToPortModel", name := "startSo", desc := "()V" } : Jvm.MethodName)) ∈ zT := zj_in7 (i := 94) rfl rfl
theorem zw_7_86 : (Jvm.Cond.instanceMethod ({ cls := "RoadToPortModel", name := "startSo", desc := "()V" } : Jvm.MethodName)) ∈ zT := zj_in7 (i := 96) rfl rfl
theorem zw_7_87 : (Jvm.Cond.code ({ cls := "RoadToPortModel", name := "startSo", desc := "()V" } : Jvm.MethodName) prog_14_method_27_code (2 : Nat) (Option.none : Option Jvm.ClassFile.FieldType)) ∈ zT := zj_in7 (i := 97) rfl rfl
theorem zw_7_88 : (Jvm.Cond.methodLink "RoadToPortLaw" (45 : Nat) ({ cls := "RoadToPortModel", name := "fault", desc := "()I" } : Jvm.MethodName)) ∈ zT := zj_in7 (i := 98) rfl rfl
theorem zw_7_89 : (Jvm.Cond.instanceMethod ({ cls := "RoadToPortModel", name := "fault", desc := "()I" } : Jvm.MethodName)) ∈ zT := zj_in7 (i := 99) rfl rfl
theorem zw_7_90 : (Jvm.Cond.selects "RoadToPortModel" ({ cls := "RoadToPortModel", name := "fault", desc := "()I" } : Jvm.MethodName) ({ cls := "RoadToPortModel", name := "fault", desc := "()I" } : Jvm.MethodName)) ∈ zT := zj_in7 (i := 100) rfl rfl
theorem zw_7_91 : (Jvm.Cond.code ({ cls := "RoadToPortModel", name := "fault", desc := "()I" } : Jvm.MethodName) prog_14_method_41_code (1 : Nat) (Option.some Jvm.ClassFile.FieldType.int)) ∈ zT := zj_in7 (i := 101) rfl rfl
theorem zw_7_92 : (Jvm.Cond.methodLink "RoadToPortLaw" (49 : Nat) ({ cls := "RoadToPortModel", name := "place", desc := "(II)I" } : Jvm.MethodName)) ∈ zT := zj_in7 (i := 102) rfl rfl
theorem zw_7_93 : (Jvm.Cond.instanceMethod ({ cls := "RoadToPortModel", name := "place", desc := "(II)I" } : Jvm.MethodName)) ∈ zT := zj_in7 (i := 103) rfl rfl
theorem zw_7_94 : (Jvm.Cond.selects "RoadToPortModel" ({ cls := "RoadToPortModel", name := "place", desc := "(II)I" } : Jvm.MethodName) ({ cls := "RoadToPortModel", name := "place", desc := "(II)I" } : Jvm.MethodName)) ∈ zT := zj_in7 (i := 104) rfl rfl
theorem zw_7_95 : (Jvm.Cond.code ({ cls := "RoadToPortModel", name := "place", desc := "(II)I" } : Jvm.MethodName) prog_14_method_52_code (5 : Nat) (Option.some Jvm.ClassFile.FieldType.int)) ∈ zT := zj_in7 (i := 105) rfl rfl
theorem zw_7_96 : (Jvm.Cond.methodLink "RoadToPortModel" (244 : Nat) ({ cls := "RoadToPortModel", name := "isPlace", desc := "(I)Z" } : Jvm.MethodName)) ∈ zT := zj_in7 (i := 106) rfl rfl
theorem zw_7_98 : (Jvm.Cond.instanceMethod ({ cls := "RoadToPortModel", name := "isPlace", desc := "(I)Z" } : Jvm.MethodName)) ∈ zT := zj_in7 (i := 108) rfl rfl
theorem zw_7_99 : (Jvm.Cond.code ({ cls := "RoadToPortModel", name := "isPlace", desc := "(I)Z" } : Jvm.MethodName) prog_14_method_42_code (2 : Nat) (Option.some Jvm.ClassFile.FieldType.boolean)) ∈ zT := zj_in7 (i := 109) rfl rfl
theorem zw_7_100 : (Jvm.Cond.methodLink "RoadToPortModel" (266 : Nat) ({ cls := "RoadToPortModel", name := "placeOf", desc := "(I)I" } : Jvm.MethodName)) ∈ zT := zj_in7 (i := 110) rfl rfl
theorem zw_7_102 : (Jvm.Cond.instanceMethod ({ cls := "RoadToPortModel", name := "placeOf", desc := "(I)I" } : Jvm.MethodName)) ∈ zT := zj_in7 (i := 112) rfl rfl
theorem zw_7_103 : (Jvm.Cond.code ({ cls := "RoadToPortModel", name := "placeOf", desc := "(I)I" } : Jvm.MethodName) prog_14_method_50_code (2 : Nat) (Option.some Jvm.ClassFile.FieldType.int)) ∈ zT := zj_in7 (i := 113) rfl rfl
theorem zw_7_104 : (Jvm.Cond.methodLink "RoadToPortModel" (263 : Nat) ({ cls := "RoadToPortModel", name := "layThere", desc := "(II)V" } : Jvm.MethodName)) ∈ zT := zj_in7 (i := 114) rfl rfl
theorem zw_7_106 : (Jvm.Cond.instanceMethod ({ cls := "RoadToPortModel", name := "layThere", desc := "(II)V" } : Jvm.MethodName)) ∈ zT := zj_in7 (i := 116) rfl rfl
theorem zw_7_107 : (Jvm.Cond.code ({ cls := "RoadToPortModel", name := "layThere", desc := "(II)V" } : Jvm.MethodName) prog_14_method_49_code (3 : Nat) (Option.none : Option Jvm.ClassFile.FieldType)) ∈ zT := zj_in7 (i := 117) rfl rfl
theorem zw_7_108 : (Jvm.Cond.methodLink "RoadToPortModel" (259 : Nat) ({ cls := "RoadToPortModel", name := "layThere", desc := "(III)V" } : Jvm.MethodName)) ∈ zT := zj_in7 (i := 118) rfl rfl
theorem zw_7_110 : (Jvm.Cond.instanceMethod ({ cls := "RoadToPortModel", name := "layThere", desc := "(III)V" } : Jvm.MethodName)) ∈ zT := zj_in7 (i := 120) rfl rfl
theorem zw_7_111 : (Jvm.Cond.code ({ cls := "RoadToPortModel", name := "layThere", desc := "(III)V" } : Jvm.MethodName) prog_14_method_48_code (7 : Nat) (Option.none : Option Jvm.ClassFile.FieldType)) ∈ zT := zj_in7 (i := 121) rfl rfl
theorem zw_7_112 : (Jvm.Cond.methodLink "RoadToPortModel" (250 : Nat) ({ cls := "RoadToPortModel", name := "nextOf", desc := "(II)I" } : Jvm.MethodName)) ∈ zT := zj_in7 (i := 122) rfl rfl
theorem zw_7_114 : (Jvm.Cond.instanceMethod ({ cls := "RoadToPortModel", name := "nextOf", desc := "(II)I" } : Jvm.MethodName)) ∈ zT := zj_in7 (i := 124) rfl rfl
theorem zw_7_115 : (Jvm.Cond.code ({ cls := "RoadToPortModel", name := "nextOf", desc := "(II)I" } : Jvm.MethodName) prog_14_method_46_code (3 : Nat) (Option.some Jvm.ClassFile.FieldType.int)) ∈ zT := zj_in7 (i := 125) rfl rfl
theorem zw_7_116 : (Jvm.Cond.methodLink "RoadToPortModel" (253 : Nat) ({ cls := "RoadToPortModel", name := "roadOf", desc := "(II)I" } : Jvm.MethodName)) ∈ zT := zj_in7 (i := 126) rfl rfl
theorem zw_7_118 : (Jvm.Cond.instanceMethod ({ cls := "RoadToPortModel", name := "roadOf", desc := "(II)I" } : Jvm.MethodName)) ∈ zT := zj_in7 (i := 128) rfl rfl
theorem zw_7_119 : (Jvm.Cond.code ({ cls := "RoadToPortModel", name := "roadOf", desc := "(II)I" } : Jvm.MethodName) prog_14_method_47_code (3 : Nat) (Option.some Jvm.ClassFile.FieldType.int)) ∈ zT := zj_in7 (i := 129) rfl rfl
theorem zw_7_120 : (Jvm.Cond.methodLink "RoadToPortLaw" (53 : Nat) ({ cls := "RoadToPortModel", name := "road", desc := "(III)I" } : Jvm.MethodName)) ∈ zT := zj_in7 (i := 130) rfl rfl
theorem zw_7_121 : (Jvm.Cond.instanceMethod ({ cls := "RoadToPortModel", name := "road", desc := "(III)I" } : Jvm.MethodName)) ∈ zT := zj_in7 (i := 131) rfl rfl
theorem zw_7_122 : (Jvm.Cond.selects "RoadToPortModel" ({ cls := "RoadToPortModel", name := "road", desc := "(III)I" } : Jvm.MethodName) ({ cls := "RoadToPortModel", name := "road", desc := "(III)I" } : Jvm.MethodName)) ∈ zT := zj_in7 (i := 132) rfl rfl
theorem zw_7_123 : (Jvm.Cond.code ({ cls := "RoadToPortModel", name := "road", desc := "(III)I" } : Jvm.MethodName) prog_14_method_53_code (5 : Nat) (Option.some Jvm.ClassFile.FieldType.int)) ∈ zT := zj_in7 (i := 133) rfl rfl
theorem zw_7_124 : (Jvm.Cond.methodLink "RoadToPortLaw" (59 : Nat) ({ cls := "RoadToPortModel", name := "man", desc := "(II)I" } : Jvm.MethodName)) ∈ zT := zj_in7 (i := 134) rfl rfl
theorem zw_7_125 : (Jvm.Cond.instanceMethod ({ cls := "RoadToPortModel", name := "man", desc := "(II)I" } : Jvm.MethodName)) ∈ zT := zj_in7 (i := 135) rfl rfl
theorem zw_7_126 : (Jvm.Cond.selects "RoadToPortModel" ({ cls := "RoadToPortModel", name := "man", desc := "(II)I" } : Jvm.MethodName) ({ cls := "RoadToPortModel", name := "man", desc := "(II)I" } : Jvm.MethodName)) ∈ zT := zj_in7 (i := 136) rfl rfl
theorem zw_7_127 : (Jvm.Cond.code ({ cls := "RoadToPortModel", name := "man", desc := "(II)I" } : Jvm.MethodName) prog_14_method_55_code (3 : Nat) (Option.some Jvm.ClassFile.FieldType.int)) ∈ zT := zj_in7 (i := 137) rfl rfl
theorem zw_7_128 : (Jvm.Cond.methodLink "RoadToPortModel" (269 : Nat) ({ cls := "RoadToPortModel", name := "isMan", desc := "(I)Z" } : Jvm.MethodName)) ∈ zT := zj_in7 (i := 138) rfl rfl
theorem zw_7_130 : (Jvm.Cond.instanceMethod ({ cls := "RoadToPortModel", name := "isMan", desc := "(I)Z" } : Jvm.MethodName)) ∈ zT := zj_in7 (i := 140) rfl rfl
theorem zw_7_131 : (Jvm.Cond.code ({ cls := "RoadToPortModel", name := "isMan", desc := "(I)Z" } : Jvm.MethodName) prog_14_method_44_code (2 : Nat) (Option.some Jvm.ClassFile.FieldType.boolean)) ∈ zT := zj_in7 (i := 141) rfl rfl
theorem zw_7_132 : (Jvm.Cond.methodLink "RoadToPortModel" (272 : Nat) ({ cls := "RoadToPortModel", name := "refuse", desc := "()I" } : Jvm.MethodName)) ∈ zT := zj_in7 (i := 142) rfl rfl
theorem zw_7_134 : (Jvm.Cond.instanceMethod ({ cls := "RoadToPortModel", name := "refuse", desc := "()I" } : Jvm.MethodName)) ∈ zT := zj_in7 (i := 144) rfl rfl
theorem zw_7_135 : (Jvm.Cond.code ({ cls := "RoadToPortModel", name := "refuse", desc := "()I" } : Jvm.MethodName) prog_14_method_3_code (1 : Nat) (Option.some Jvm.ClassFile.FieldType.int)) ∈ zT := zj_in7 (i := 145) rfl rfl
theorem zw_7_136 : (Jvm.Cond.methodLink "RoadToPortModel" (275 : Nat) ({ cls := "RoadToPortModel", name := "daysOf", desc := "(I)I" } : Jvm.MethodName)) ∈ zT := zj_in7 (i := 146) rfl rfl
theorem zw_7_138 : (Jvm.Cond.instanceMethod ({ cls := "RoadToPortModel", name := "daysOf", desc := "(I)I" } : Jvm.MethodName)) ∈ zT := zj_in7 (i := 148) rfl rfl
theorem zw_7_139 : (Jvm.Cond.code ({ cls := "RoadToPortModel", name := "daysOf", desc := "(I)I" } : Jvm.MethodName) prog_14_method_54_code (2 : Nat) (Option.some Jvm.ClassFile.FieldType.int)) ∈ zT := zj_in7 (i := 149) rfl rfl
theorem zw_7_140 : (Jvm.Cond.methodLink "RoadToPortLaw" (67 : Nat) ({ cls := "RoadToPortModel", name := "now", desc := "(I)I" } : Jvm.MethodName)) ∈ zT := zj_in7 (i := 150) rfl rfl
theorem zw_7_141 : (Jvm.Cond.instanceMethod ({ cls := "RoadToPortModel", name := "now", desc := "(I)I" } : Jvm.MethodName)) ∈ zT := zj_in7 (i := 151) rfl rfl
theorem zw_7_142 : (Jvm.Cond.selects "RoadToPortModel" ({ cls := "RoadToPortModel", name := "now", desc := "(I)I" } : Jvm.MethodName) ({ cls := "RoadToPortModel", name := "now", desc := "(I)I" } : Jvm.MethodName)) ∈ zT := zj_in7 (i := 152) rfl rfl
theorem zw_7_143 : (Jvm.Cond.code ({ cls := "RoadToPortModel", name := "now", desc := "(I)I" } : Jvm.MethodName) prog_14_method_56_code (2 : Nat) (Option.some Jvm.ClassFile.FieldType.int)) ∈ zT := zj_in7 (i := 153) rfl rfl
theorem zw_7_144 : (Jvm.Cond.methodLink "RoadToPortModel" (278 : Nat) ({ cls := "RoadToPortModel", name := "those", desc := "(I)I" } : Jvm.MethodName)) ∈ zT := zj_in7 (i := 154) rfl rfl
theorem zw_7_146 : (Jvm.Cond.instanceMethod ({ cls := "RoadToPortModel", name := "those", desc := "(I)I" } : Jvm.MethodName)) ∈ zT := zj_in7 (i := 156) rfl rfl
theorem zw_7_147 : (Jvm.Cond.code ({ cls := "RoadToPortModel", name := "those", desc := "(I)I" } : Jvm.MethodName) prog_14_method_51_code (4 : Nat) (Option.some Jvm.ClassFile.FieldType.int)) ∈ zT := zj_in7 (i := 157) rfl rfl
theorem zw_7_148 : (Jvm.Cond.methodLink "RoadToPortLaw" (71 : Nat) ({ cls := "RoadToPortModel", name := "swear", desc := "(III)I" } : Jvm.MethodName)) ∈ zT := zj_in7 (i := 158) rfl rfl
theorem zw_7_149 : (Jvm.Cond.instanceMethod ({ cls := "RoadToPortModel", name := "swear", desc := "(III)I" } : Jvm.MethodName)) ∈ zT := zj_in7 (i := 159) rfl rfl
theorem zw_7_150 : (Jvm.Cond.selects "RoadToPortModel" ({ cls := "RoadToPortModel", name := "swear", desc := "(III)I" } : Jvm.MethodName) ({ cls := "RoadToPortModel", name := "swear", desc := "(III)I" } : Jvm.MethodName)) ∈ zT := zj_in7 (i := 160) rfl rfl
theorem zw_7_151 : (Jvm.Cond.code ({ cls := "RoadToPortModel", name := "swear", desc := "(III)I" } : Jvm.MethodName) prog_14_method_64_code (4 : Nat) (Option.some Jvm.ClassFile.FieldType.int)) ∈ zT := zj_in7 (i := 161) rfl rfl
theorem zw_7_152 : (Jvm.Cond.methodLink "RoadToPortModel" (304 : Nat) ({ cls := "RoadToPortModel", name := "isPort", desc := "(I)Z" } : Jvm.MethodName)) ∈ zT := zj_in7 (i := 162) rfl rfl
theorem zw_7_154 : (Jvm.Cond.instanceMethod ({ cls := "RoadToPortModel", name := "isPort", desc := "(I)Z" } : Jvm.MethodName)) ∈ zT := zj_in7 (i := 164) rfl rfl
theorem zw_7_155 : (Jvm.Cond.code ({ cls := "RoadToPortModel", name := "isPort", desc := "(I)Z" } : Jvm.MethodName) prog_14_method_43_code (2 : Nat) (Option.some Jvm.ClassFile.FieldType.boolean)) ∈ zT := zj_in7 (i := 165) rfl rfl
theorem zw_7_156 : (Jvm.Cond.methodLink "RoadToPortModel" (307 : Nat) ({ cls := "RoadToPortModel", name := "act", desc := "(IIII)I" } : Jvm.MethodName)) ∈ zT := zj_in7 (i := 166) rfl rfl
theorem zw_7_158 : (Jvm.Cond.instanceMethod ({ cls := "RoadToPortModel", name := "act", desc := "(IIII)I" } : Jvm.MethodName)) ∈ zT := zj_in7 (i := 168) rfl rfl
theorem zw_7_159 : (Jvm.Cond.code ({ cls := "RoadToPortModel", name := "act", desc := "(IIII)I" } : Jvm.MethodName) prog_14_method_63_code (6 : Nat) (Option.some Jvm.ClassFile.FieldType.int)) ∈ zT := zj_in7 (i := 169) rfl rfl
theorem zw_7_160 : (Jvm.Cond.methodLink "RoadToPortModel" (293 : Nat) ({ cls := "RoadToPortModel", name := "why", desc := "(III)I" } : Jvm.MethodName)) ∈ zT := zj_in7 (i := 170) rfl rfl
theorem zw_7_162 : (Jvm.Cond.instanceMethod ({ cls := "RoadToPortModel", name := "why", desc := "(III)I" } : Jvm.MethodName)) ∈ zT := zj_in7 (i := 172) rfl rfl
theorem zw_7_163 : (Jvm.Cond.code ({ cls := "RoadToPortModel", name := "why", desc := "(III)I" } : Jvm.MethodName) prog_14_method_59_code (5 : Nat) (Option.some Jvm.ClassFile.FieldType.int)) ∈ zT := zj_in7 (i := 173) rfl rfl
theorem zw_7_164 : (Jvm.Cond.methodLink "RoadToPortModel" (281 : Nat) ({ cls := "RoadToPortModel", name := "farOf", desc := "(II)I" } : Jvm.MethodName)) ∈ zT := zj_in7 (i := 174) rfl rfl
theorem zw_7_166 : (Jvm.Cond.instanceMethod ({ cls := "RoadToPortModel", name := "farOf", desc := "(II)I" } : Jvm.MethodName)) ∈ zT := zj_in7 (i := 176) rfl rfl
theorem zw_7_167 : (Jvm.Cond.code ({ cls := "RoadToPortModel", name := "farOf", desc := "(II)I" } : Jvm.MethodName) prog_14_method_45_code (3 : Nat) (Option.some Jvm.ClassFile.FieldType.int)) ∈ zT := zj_in7 (i := 177) rfl rfl
theorem zw_7_168 : (Jvm.Cond.methodLink "RoadToPortModel" (284 : Nat) ({ cls := "RoadToPortModel", name := "whyEnter", desc := "(I)I" } : Jvm.MethodName)) ∈ zT := zj_in7 (i := 178) rfl rfl
theorem zw_7_170 : (Jvm.Cond.instanceMethod ({ cls := "RoadToPortModel", name := "whyEnter", desc := "(I)I" } : Jvm.MethodName)) ∈ zT := zj_in7 (i := 180) rfl rfl
theorem zw_7_171 : (Jvm.Cond.code ({ cls := "RoadToPortModel", name := "whyEnter", desc := "(I)I" } : Jvm.MethodName) prog_14_method_58_code (3 : Nat) (Option.some Jvm.ClassFile.FieldType.int)) ∈ zT := zj_in7 (i := 181) rfl rfl
theorem zw_7_172 : (Jvm.Cond.methodLink "RoadToPortModel" (297 : Nat) ({ cls := "RoadToPortModel", name := "snap", desc := "()V" } : Jvm.MethodName)) ∈ zT := zj_in7 (i := 182) rfl rfl
theorem zw_7_174 : (Jvm.Cond.instanceMethod ({ cls := "RoadToPortModel", name := "snap", desc := "()V" } : Jvm.MethodName)) ∈ zT := zj_in7 (i := 184) rfl rfl
theorem zw_7_175 : (Jvm.Cond.code ({ cls := "RoadToPortModel", name := "snap", desc := "()V" } : Jvm.MethodName) prog_14_method_57_code (2 : Nat) (Option.none : Option Jvm.ClassFile.FieldType)) ∈ zT := zj_in7 (i := 185) rfl rfl
theorem zw_7_176 : (Jvm.Cond.methodLink "RoadToPortModel" (300 : Nat) ({ cls := "RoadToPortModel", name := "live", desc := "(IIII)V" } : Jvm.MethodName)) ∈ zT := zj_in7 (i := 186) rfl rfl
theorem zw_7_178 : (Jvm.Cond.instanceMethod ({ cls := "RoadToPortModel", name := "live", desc := "(IIII)V" } : Jvm.MethodName)) ∈ zT := zj_in7 (i := 188) rfl rfl
theorem zw_7_179 : (Jvm.Cond.code ({ cls := "RoadToPortModel", name := "live", desc := "(IIII)V" } : Jvm.MethodName) prog_14_method_62_code (5 : Nat) (Option.none : Option Jvm.ClassFile.FieldType)) ∈ zT := zj_in7 (i := 189) rfl rfl
theorem zw_7_180 : (Jvm.Cond.methodLink "RoadToPortModel" (287 : Nat) ({ cls := "RoadToPortModel", name := "doSwear", desc := "(III)V" } : Jvm.MethodName)) ∈ zT := zj_in7 (i := 190) rfl rfl
theorem zw_7_182 : (Jvm.Cond.instanceMethod ({ cls := "RoadToPortModel", name := "doSwear", desc := "(III)V" } : Jvm.MethodName)) ∈ zT := zj_in7 (i := 192) rfl rfl
theorem zw_7_183 : (Jvm.Cond.code ({ cls := "RoadToPortModel", name := "doSwear", desc := "(III)V" } : Jvm.MethodName) prog_14_method_60_code (4 : Nat) (Option.none : Option Jvm.ClassFile.FieldType)) ∈ zT := zj_in7 (i := 193) rfl rfl
theorem zw_7_184 : (Jvm.Cond.methodLink "RoadToPortModel" (290 : Nat) ({ cls := "RoadToPortModel", name := "doEnter", desc := "(I)V" } : Jvm.MethodName)) ∈ zT := zj_in7 (i := 194) rfl rfl
theorem zw_7_186 : (Jvm.Cond.instanceMethod ({ cls := "RoadToPortModel", name := "doEnter", desc := "(I)V" } : Jvm.MethodName)) ∈ zT := zj_in7 (i := 196) rfl rfl
theorem zw_7_187 : (Jvm.Cond.code ({ cls := "RoadToPortModel", name := "doEnter", desc := "(I)V" } : Jvm.MethodName) prog_14_method_61_code (2 : Nat) (Option.none : Option Jvm.ClassFile.FieldType)) ∈ zT := zj_in7 (i := 197) rfl rfl
theorem zw_7_188 : (Jvm.Cond.methodLink "RoadToPortLaw" (75 : Nat) ({ cls := "RoadToPortModel", name := "order", desc := "(II)I" } : Jvm.MethodName)) ∈ zT := zj_in7 (i := 198) rfl rfl
theorem zw_7_189 : (Jvm.Cond.instanceMethod ({ cls := "RoadToPortModel", name := "order", desc := "(II)I" } : Jvm.MethodName)) ∈ zT := zj_in7 (i := 199) rfl rfl
theorem zw_7_190 : (Jvm.Cond.selects "RoadToPortModel" ({ cls := "RoadToPortModel", name := "order", desc := "(II)I" } : Jvm.MethodName) ({ cls := "RoadToPortModel", name := "order", desc := "(II)I" } : Jvm.MethodName)) ∈ zT := zj_in7 (i := 200) rfl rfl
theorem zw_7_191 : (Jvm.Cond.code ({ cls := "RoadToPortModel", name := "order", desc := "(II)I" } : Jvm.MethodName) prog_14_method_65_code (3 : Nat) (Option.some Jvm.ClassFile.FieldType.int)) ∈ zT := zj_in7 (i := 201) rfl rfl
theorem zw_7_192 : (Jvm.Cond.methodLink "RoadToPortLaw" (79 : Nat) ({ cls := "RoadToPortModel", name := "slip", desc := "(I)I" } : Jvm.MethodName)) ∈ zT := zj_in7 (i := 202) rfl rfl
theorem zw_7_193 : (Jvm.Cond.instanceMethod ({ cls := "RoadToPortModel", name := "slip", desc := "(I)I" } : Jvm.MethodName)) ∈ zT := zj_in7 (i := 203) rfl rfl
theorem zw_7_194 : (Jvm.Cond.selects "RoadToPortModel" ({ cls := "RoadToPortModel", name := "slip", desc := "(I)I" } : Jvm.MethodName) ({ cls := "RoadToPortModel", name := "slip", desc := "(I)I" } : Jvm.MethodName)) ∈ zT := zj_in7 (i := 204) rfl rfl
theorem zw_7_195 : (Jvm.Cond.code ({ cls := "RoadToPortModel", name := "slip", desc := "(I)I" } : Jvm.MethodName) prog_14_method_66_code (2 : Nat) (Option.some Jvm.ClassFile.FieldType.int)) ∈ zT := zj_in7 (i := 205) rfl rfl
theorem zw_7_196 : (Jvm.Cond.methodLink "RoadToPortLaw" (83 : Nat) ({ cls := "RoadToPortModel", name := "enter", desc := "(I)I" } : Jvm.MethodName)) ∈ zT := zj_in7 (i := 206) rfl rfl
theorem zw_7_197 : (Jvm.Cond.instanceMethod ({ cls := "RoadToPortModel", name := "enter", desc := "(I)I" } : Jvm.MethodName)) ∈ zT := zj_in7 (i := 207) rfl rfl
theorem zw_7_198 : (Jvm.Cond.selects "RoadToPortModel" ({ cls := "RoadToPortModel", name := "enter", desc := "(I)I" } : Jvm.MethodName) ({ cls := "RoadToPortModel", name := "enter", desc := "(I)I" } : Jvm.MethodName)) ∈ zT := zj_in7 (i := 208) rfl rfl
theorem zw_7_199 : (Jvm.Cond.code ({ cls := "RoadToPortModel", name := "enter", desc := "(I)I" } : Jvm.MethodName) prog_14_method_67_code (2 : Nat) (Option.some Jvm.ClassFile.FieldType.int)) ∈ zT := zj_in7 (i := 209) rfl rfl
theorem zw_7_200 : (Jvm.Cond.methodLink "RoadToPortLaw" (87 : Nat) ({ cls := "RoadToPortModel", name := "get", desc := "(II)I" } : Jvm.MethodName)) ∈ zT := zj_in7 (i := 210) rfl rfl
theorem zw_7_201 : (Jvm.Cond.instanceMethod ({ cls := "RoadToPortModel", name := "get", desc := "(II)I" } : Jvm.MethodName)) ∈ zT := zj_in7 (i := 211) rfl rfl
theorem zw_7_202 : (Jvm.Cond.selects "RoadToPortModel" ({ cls := "RoadToPortModel", name := "get", desc := "(II)I" } : Jvm.MethodName) ({ cls := "RoadToPortModel", name := "get", desc := "(II)I" } : Jvm.MethodName)) ∈ zT := zj_in7 (i := 212) rfl rfl
theorem zw_7_203 : (Jvm.Cond.code ({ cls := "RoadToPortModel", name := "get", desc := "(II)I" } : Jvm.MethodName) prog_14_method_68_code (3 : Nat) (Option.some Jvm.ClassFile.FieldType.int)) ∈ zT := zj_in7 (i := 213) rfl rfl
theorem zw_7_204 : (Jvm.Cond.methodLink "RoadToPortLaw" (95 : Nat) ({ cls := "RoadToPortModel", name := "undo", desc := "()I" } : Jvm.MethodName)) ∈ zT := zj_in7 (i := 214) rfl rfl
theorem zw_7_205 : (Jvm.Cond.instanceMethod ({ cls := "RoadToPortModel", name := "undo", desc := "()I" } : Jvm.MethodName)) ∈ zT := zj_in7 (i := 215) rfl rfl
theorem zw_7_206 : (Jvm.Cond.selects "RoadToPortModel" ({ cls := "RoadToPortModel", name := "undo", desc := "()I" } : Jvm.MethodName) ({ cls := "RoadToPortModel", name := "undo", desc := "()I" } : Jvm.MethodName)) ∈ zT := zj_in7 (i := 216) rfl rfl
theorem zw_7_207 : (Jvm.Cond.code ({ cls := "RoadToPortModel", name := "undo", desc := "()I" } : Jvm.MethodName) prog_14_method_69_code (2 : Nat) (Option.some Jvm.ClassFile.FieldType.int)) ∈ zT := zj_in7 (i := 217) rfl rfl
theorem zw_7_208 : (Jvm.Cond.methodLink "RoadToPortLaw" (91 : Nat) ({ cls := "RoadToPortModel", name := "days", desc := "(II)I" } : Jvm.MethodName)) ∈ zT := zj_in7 (i := 218) rfl rfl
theorem zw_7_209 : (Jvm.Cond.instanceMethod ({ cls := "RoadToPortModel", name := "days", desc := "(II)I" } : Jvm.MethodName)) ∈ zT := zj_in7 (i := 219) rfl rfl
theorem zw_7_210 : (Jvm.Cond.selects "RoadToPortModel" ({ cls := "RoadToPortModel", name := "days", desc := "(II)I" } : Jvm.MethodName) ({ cls := "RoadToPortModel", name := "days", desc := "(II)I" } : Jvm.MethodName)) ∈ zT := zj_in7 (i := 220) rfl rfl
theorem zw_7_211 : (Jvm.Cond.code ({ cls := "RoadToPortModel", name := "days", desc := "(II)I" } : Jvm.MethodName) prog_14_method_77_code (3 : Nat) (Option.some Jvm.ClassFile.FieldType.int)) ∈ zT := zj_in7 (i := 221) rfl rfl
theorem zw_7_212 : (Jvm.Cond.methodLink "RoadToPortModel" (333 : Nat) ({ cls := "RoadToPortModel", name := "passDays", desc := "(II)I" } : Jvm.MethodName)) ∈ zT := zj_in7 (i := 222) rfl rfl
theorem zw_7_214 : (Jvm.Cond.instanceMethod ({ cls := "RoadToPortModel", name := "passDays", desc := "(II)I" } : Jvm.MethodName)) ∈ zT := zj_in7 (i := 224) rfl rfl
theorem zw_7_215 : (Jvm.Cond.code ({ cls := "RoadToPortModel", name := "passDays", desc := "(II)I" } : Jvm.MethodName) prog_14_method_76_code (5 : Nat) (Option.some Jvm.ClassFile.FieldType.int)) ∈ zT := zj_in7 (i := 225) rfl rfl
theorem zw_7_216 : (Jvm.Cond.methodLink "RoadToPortModel" (330 : Nat) ({ cls := "RoadToPortModel", name := "oneDay", desc := "()V" } : Jvm.MethodName)) ∈ zT := zj_in7 (i := 226) rfl rfl
theorem zw_7_218 : (Jvm.Cond.instanceMethod ({ cls := "RoadToPortModel", name := "oneDay", desc := "()V" } : Jvm.MethodName)) ∈ zT := zj_in7 (i := 228) rfl rfl
theorem zw_7_219 : (Jvm.Cond.code ({ cls := "RoadToPortModel", name := "oneDay", desc := "()V" } : Jvm.MethodName) prog_14_method_75_code (2 : Nat) (Option.none : Option Jvm.ClassFile.FieldType)) ∈ zT := zj_in7 (i := 229) rfl rfl
theorem zw_7_220 : (Jvm.Cond.methodLink "RoadToPortModel" (324 : Nat) ({ cls := "RoadToPortModel", name := "waits", desc := "(I)V" } : Jvm.MethodName)) ∈ zT := zj_in7 (i := 230) rfl rfl
theorem zw_7_222 : (Jvm.Cond.instanceMethod ({ cls := "RoadToPortModel", name := "waits", desc := "(I)V" } : Jvm.MethodName)) ∈ zT := zj_in7 (i := 232) rfl rfl
theorem zw_7_223 : (Jvm.Cond.code ({ cls := "RoadToPortModel", name := "waits", desc := "(I)V" } : Jvm.MethodName) prog_14_method_71_code (4 : Nat) (Option.none : Option Jvm.ClassFile.FieldType)) ∈ zT := zj_in7 (i := 233) rfl rfl
theorem zw_7_224 : (Jvm.Cond.methodLink "RoadToPortModel" (315 : Nat) ({ cls := "RoadToPortModel", name := "draw", desc := "(I)I" } : Jvm.MethodName)) ∈ zT := zj_in7 (i := 234) rfl rfl
theorem zw_7_226 : (Jvm.Cond.instanceMethod ({ cls := "RoadToPortModel", name := "draw", desc := "(I)I" } : Jvm.MethodName)) ∈ zT := zj_in7 (i := 236) rfl rfl
theorem zw_7_227 : (Jvm.Cond.code ({ cls := "RoadToPortModel", name := "draw", desc := "(I)I" } : Jvm.MethodName) prog_14_method_70_code (2 : Nat) (Option.some Jvm.ClassFile.FieldType.int)) ∈ zT := zj_in7 (i := 237) rfl rfl
theorem zw_7_228 : (Jvm.Cond.constant "RoadToPortModel" (314 : Nat) (1103515245 : Int32)) ∈ zT := zj_in7 (i := 238) rfl rfl
theorem zw_7_229 : (Jvm.Cond.methodLink "RoadToPortModel" (327 : Nat) ({ cls := "RoadToPortModel", name := "walks", desc := "(I)V" } : Jvm.MethodName)) ∈ zT := zj_in7 (i := 239) rfl rfl
theorem zw_7_231 : (Jvm.Cond.instanceMethod ({ cls := "RoadToPortModel", name := "walks", desc := "(I)V" } : Jvm.MethodName)) ∈ zT := zj_in8 (i := 1) rfl rfl
theorem zw_7_232 : (Jvm.Cond.code ({ cls := "RoadToPortModel", name := "walks", desc := "(I)V" } : Jvm.MethodName) prog_14_method_74_code (5 : Nat) (Option.none : Option Jvm.ClassFile.FieldType)) ∈ zT := zj_in8 (i := 2) rfl rfl
theorem zw_7_233 : (Jvm.Cond.methodLink "RoadToPortModel" (318 : Nat) ({ cls := "RoadToPortModel", name := "hasFord", desc := "(II)Z" } : Jvm.MethodName)) ∈ zT := zj_in8 (i := 3) rfl rfl
theorem zw_7_235 : (Jvm.Cond.instanceMethod ({ cls := "RoadToPortModel", name := "hasFord", desc := "(II)Z" } : Jvm.MethodName)) ∈ zT := zj_in8 (i := 5) rfl rfl
theorem zw_7_236 : (Jvm.Cond.code ({ cls := "RoadToPortModel", name := "hasFord", desc := "(II)Z" } : Jvm.MethodName) prog_14_method_72_code (4 : Nat) (Option.some Jvm.ClassFile.FieldType.boolean)) ∈ zT := zj_in8 (i := 6) rfl rfl
theorem zw_7_237 : (Jvm.Cond.methodLink "RoadToPortModel" (321 : Nat) ({ cls := "RoadToPortModel", name := "dangerAt", desc := "(II)I" } : Jvm.MethodName)) ∈ zT := zj_in8 (i := 7) rfl rfl
theorem zw_7_239 : (Jvm.Cond.instanceMethod ({ cls := "RoadToPortModel", name := "dangerAt", desc := "(II)I" } : Jvm.MethodName)) ∈ zT := zj_in8 (i := 9) rfl rfl
theorem zw_8_0 : (Jvm.Cond.code ({ cls := "RoadToPortModel", name := "dangerAt", desc := "(II)I" } : Jvm.MethodName) prog_14_method_73_code (3 : Nat) (Option.some Jvm.ClassFile.FieldType.int)) ∈ zT := zj_in8 (i := 10) rfl rfl
theorem zw_8_1 : (Jvm.Cond.methodLink "RoadToPortLaw" (99 : Nat) ({ cls := "RoadToPortModel", name := "far", desc := "(II)I" } : Jvm.MethodName)) ∈ zT := zj_in8 (i := 11) rfl rfl
theorem zw_8_2 : (Jvm.Cond.instanceMethod ({ cls := "RoadToPortModel", name := "far", desc := "(II)I" } : Jvm.MethodName)) ∈ zT := zj_in8 (i := 12) rfl rfl
theorem zw_8_3 : (Jvm.Cond.selects "RoadToPortModel" ({ cls := "RoadToPortModel", name := "far", desc := "(II)I" } : Jvm.MethodName) ({ cls := "RoadToPortModel", name := "far", desc := "(II)I" } : Jvm.MethodName)) ∈ zT := zj_in8 (i := 13) rfl rfl
theorem zw_8_4 : (Jvm.Cond.code ({ cls := "RoadToPortModel", name := "far", desc := "(II)I" } : Jvm.MethodName) prog_14_method_78_code (3 : Nat) (Option.some Jvm.ClassFile.FieldType.int)) ∈ zT := zj_in8 (i := 14) rfl rfl
theorem zw_8_5 : (Jvm.Cond.methodLink "RoadToPortLaw" (103 : Nat) ({ cls := "RoadToPortModel", name := "way", desc := "(II)I" } : Jvm.MethodName)) ∈ zT := zj_in8 (i := 15) rfl rfl
theorem zw_8_6 : (Jvm.Cond.instanceMethod ({ cls := "RoadToPortModel", name := "way", desc := "(II)I" } : Jvm.MethodName)) ∈ zT := zj_in8 (i := 16) rfl rfl
theorem zw_8_7 : (Jvm.Cond.selects "RoadToPortModel" ({ cls := "RoadToPortModel", name := "way", desc := "(II)I" } : Jvm.MethodName) ({ cls := "RoadToPortModel", name := "way", desc := "(II)I" } : Jvm.MethodName)) ∈ zT := zj_in8 (i := 17) rfl rfl
theorem zw_8_8 : (Jvm.Cond.code ({ cls := "RoadToPortModel", name := "way", desc := "(II)I" } : Jvm.MethodName) prog_14_method_79_code (3 : Nat) (Option.some Jvm.ClassFile.FieldType.int)) ∈ zT := zj_in8 (i := 18) rfl rfl
theorem zw_8_9 : (Jvm.Cond.methodLink "RoadToPortLaw" (107 : Nat) ({ cls := "RoadToPortModel", name := "wayAt", desc := "(I)I" } : Jvm.MethodName)) ∈ zT := zj_in8 (i := 19) rfl rfl
theorem zw_8_10 : (Jvm.Cond.instanceMethod ({ cls := "RoadToPortModel", name := "wayAt", desc := "(I)I" } : Jvm.MethodName)) ∈ zT := zj_in8 (i := 20) rfl rfl
theorem zw_8_11 : (Jvm.Cond.selects "RoadToPortModel" ({ cls := "RoadToPortModel", name := "wayAt", desc := "(I)I" } : Jvm.MethodName) ({ cls := "RoadToPortModel", name := "wayAt", desc := "(I)I" } : Jvm.MethodName)) ∈ zT := zj_in8 (i := 21) rfl rfl
theorem zw_8_12 : (Jvm.Cond.code ({ cls := "RoadToPortModel", name := "wayAt", desc := "(I)I" } : Jvm.MethodName) prog_14_method_80_code (2 : Nat) (Option.some Jvm.ClassFile.FieldType.int)) ∈ zT := zj_in8 (i := 22) rfl rfl
theorem zw_8_13 : (Jvm.Cond.methodLink "RoadToPortLaw" (134 : Nat) ({ cls := "RoadToPortModel", name := "worst", desc := "(II)I" } : Jvm.MethodName)) ∈ zT := zj_in8 (i := 23) rfl rfl
theorem zw_8_14 : (Jvm.Cond.instanceMethod ({ cls := "RoadToPortModel", name := "worst", desc := "(II)I" } : Jvm.MethodName)) ∈ zT := zj_in8 (i := 24) rfl rfl
theorem zw_8_15 : (Jvm.Cond.selects "RoadToPortModel" ({ cls := "RoadToPortModel", name := "worst", desc := "(II)I" } : Jvm.MethodName) ({ cls := "RoadToPortModel", name := "worst", desc := "(II)I" } : Jvm.MethodName)) ∈ zT := zj_in8 (i := 25) rfl rfl
theorem zw_8_16 : (Jvm.Cond.code ({ cls := "RoadToPortModel", name := "worst", desc := "(II)I" } : Jvm.MethodName) prog_14_method_81_code (6 : Nat) (Option.some Jvm.ClassFile.FieldType.int)) ∈ zT := zj_in8 (i := 26) rfl rfl
theorem zw_8_17 : (Jvm.Cond.methodLink "RoadToPortLaw" (110 : Nat) ({ cls := "RoadToPortModel", name := "plan", desc := "(II)J" } : Jvm.MethodName)) ∈ zT := zj_in8 (i := 27) rfl rfl
theorem zw_8_18 : (Jvm.Cond.instanceMethod ({ cls := "RoadToPortModel", name := "plan", desc := "(II)J" } : Jvm.MethodName)) ∈ zT := zj_in8 (i := 28) rfl rfl
theorem zw_8_19 : (Jvm.Cond.selects "RoadToPortModel" ({ cls := "RoadToPortModel", name := "plan", desc := "(II)J" } : Jvm.MethodName) ({ cls := "RoadToPortModel", name := "plan", desc := "(II)J" } : Jvm.MethodName)) ∈ zT := zj_in8 (i := 29) rfl rfl
theorem zw_8_20 : (Jvm.Cond.code ({ cls := "RoadToPortModel", name := "plan", desc := "(II)J" } : Jvm.MethodName) prog_14_method_86_code (11 : Nat) (Option.some Jvm.ClassFile.FieldType.long)) ∈ zT := zj_in8 (i := 30) rfl rfl
theorem zw_8_21 : (Jvm.Cond.methodLink "RoadToPortModel" (348 : Nat) ({ cls := "RoadToPortModel", name := "layPlan", desc := "(II)V" } : Jvm.MethodName)) ∈ zT := zj_in8 (i := 31) rfl rfl
theorem zw_8_23 : (Jvm.Cond.instanceMethod ({ cls := "RoadToPortModel", name := "layPlan", desc := "(II)V" } : Jvm.MethodName)) ∈ zT := zj_in8 (i := 33) rfl rfl
theorem zw_8_24 : (Jvm.Cond.code ({ cls := "RoadToPortModel", name := "layPlan", desc := "(II)V" } : Jvm.MethodName) prog_14_method_83_code (10 : Nat) (Option.none : Option Jvm.ClassFile.FieldType)) ∈ zT := zj_in8 (i := 34) rfl rfl
theorem zw_8_25 : (Jvm.Cond.constantLong "RoadToPortModel" (339 : Nat) (12 : Int64)) ∈ zT := zj_in8 (i := 35) rfl rfl
theorem zw_8_26 : (Jvm.Cond.methodLink "RoadToPortModel" (341 : Nat) ({ cls := "RoadToPortModel", name := "at", desc := "(III)I" } : Jvm.MethodName)) ∈ zT := zj_in8 (i := 36) rfl rfl
theorem zw_8_28 : (Jvm.Cond.instanceMethod ({ cls := "RoadToPortModel", name := "at", desc := "(III)I" } : Jvm.MethodName)) ∈ zT := zj_in8 (i := 38) rfl rfl
theorem zw_8_29 : (Jvm.Cond.code ({ cls := "RoadToPortModel", name := "at", desc := "(III)I" } : Jvm.MethodName) prog_14_method_82_code (4 : Nat) (Option.some Jvm.ClassFile.FieldType.int)) ∈ zT := zj_in8 (i := 39) rfl rfl
theorem zw_8_30 : (Jvm.Cond.methodLink "RoadToPortModel" (344 : Nat) ({ cls := "RoadToPortModel", name := "goesTo", desc := "(IIII)J" } : Jvm.MethodName)) ∈ zT := zj_in8 (i := 40) rfl rfl
theorem zw_8_32 : (Jvm.Cond.instanceMethod ({ cls := "RoadToPortModel", name := "goesTo", desc := "(IIII)J" } : Jvm.MethodName)) ∈ zT := zj_in8 (i := 42) rfl rfl
theorem zw_8_33 : (Jvm.Cond.code ({ cls := "RoadToPortModel", name := "goesTo", desc := "(IIII)J" } : Jvm.MethodName) prog_14_method_84_code (5 : Nat) (Option.some Jvm.ClassFile.FieldType.long)) ∈ zT := zj_in8 (i := 43) rfl rfl
theorem zw_8_34 : (Jvm.Cond.methodLink "RoadToPortModel" (354 : Nat) ({ cls := "RoadToPortModel", name := "commonLong", desc := "(JJ)J" } : Jvm.MethodName)) ∈ zT := zj_in8 (i := 44) rfl rfl
theorem zw_8_35 : (Jvm.Cond.static ({ cls := "RoadToPortModel", name := "commonLong", desc := "(JJ)J" } : Jvm.MethodName)) ∈ zT := zj_in8 (i := 45) rfl rfl
theorem zw_8_36 : (Jvm.Cond.code ({ cls := "RoadToPortModel", name := "commonLong", desc := "(JJ)J" } : Jvm.MethodName) prog_14_method_85_code (10 : Nat) (Option.some Jvm.ClassFile.FieldType.long)) ∈ zT := zj_in8 (i := 46) rfl rfl
theorem zw_8_37 : (Jvm.Cond.methodLink "RoadToPortLaw" (114 : Nat) ({ cls := "RoadToPortModel", name := "planAt", desc := "(I)I" } : Jvm.MethodName)) ∈ zT := zj_in8 (i := 47) rfl rfl
theorem zw_8_38 : (Jvm.Cond.instanceMethod ({ cls := "RoadToPortModel", name := "planAt", desc := "(I)I" } : Jvm.MethodName)) ∈ zT := zj_in8 (i := 48) rfl rfl
theorem zw_8_39 : (Jvm.Cond.selects "RoadToPortModel" ({ cls := "RoadToPortModel", name := "planAt", desc := "(I)I" } : Jvm.MethodName) ({ cls := "RoadToPortModel", name := "planAt", desc := "(I)I" } : Jvm.MethodName)) ∈ zT := zj_in8 (i := 49) rfl rfl
theorem zw_8_40 : (Jvm.Cond.code ({ cls := "RoadToPortModel", name := "planAt", desc := "(I)I" } : Jvm.MethodName) prog_14_method_87_code (2 : Nat) (Option.some Jvm.ClassFile.FieldType.int)) ∈ zT := zj_in8 (i := 50) rfl rfl
theorem zw_8_41 : (Jvm.Cond.methodLink "RoadToPortLaw" (118 : Nat) ({ cls := "RoadToPortModel", name := "sent", desc := "()I" } : Jvm.MethodName)) ∈ zT := zj_in8 (i := 51) rfl rfl
theorem zw_8_42 : (Jvm.Cond.instanceMethod ({ cls := "RoadToPortModel", name := "sent", desc := "()I" } : Jvm.MethodName)) ∈ zT := zj_in8 (i := 52) rfl rfl
theorem zw_8_43 : (Jvm.Cond.selects "RoadToPortModel" ({ cls := "RoadToPortModel", name := "sent", desc := "()I" } : Jvm.MethodName) ({ cls := "RoadToPortModel", name := "sent", desc := "()I" } : Jvm.MethodName)) ∈ zT := zj_in8 (i := 53) rfl rfl
theorem zw_8_44 : (Jvm.Cond.code ({ cls := "RoadToPortModel", name := "sent", desc := "()I" } : Jvm.MethodName) prog_14_method_89_code (2 : Nat) (Option.some Jvm.ClassFile.FieldType.int)) ∈ zT := zj_in8 (i := 54) rfl rfl
theorem zw_8_45 : (Jvm.Cond.methodLink "RoadToPortModel" (361 : Nat) ({ cls := "RoadToPortModel", name := "sendFrom", desc := "(II)V" } : Jvm.MethodName)) ∈ zT := zj_in8 (i := 55) rfl rfl
theorem zw_8_47 : (Jvm.Cond.instanceMethod ({ cls := "RoadToPortModel", name := "sendFrom", desc := "(II)V" } : Jvm.MethodName)) ∈ zT := zj_in8 (i := 57) rfl rfl
theorem zw_8_48 : (Jvm.Cond.code ({ cls := "RoadToPortModel", name := "sendFrom", desc := "(II)V" } : Jvm.MethodName) prog_14_method_88_code (5 : Nat) (Option.none : Option Jvm.ClassFile.FieldType)) ∈ zT := zj_in8 (i := 58) rfl rfl
theorem zw_8_49 : (Jvm.Cond.methodLink "RoadToPortLaw" (122 : Nat) ({ cls := "RoadToPortModel", name := "sentTo", desc := "(I)I" } : Jvm.MethodName)) ∈ zT := zj_in8 (i := 59) rfl rfl
theorem zw_8_50 : (Jvm.Cond.instanceMethod ({ cls := "RoadToPortModel", name := "sentTo", desc := "(I)I" } : Jvm.MethodName)) ∈ zT := zj_in8 (i := 60) rfl rfl
theorem zw_8_51 : (Jvm.Cond.selects "RoadToPortModel" ({ cls := "RoadToPortModel", name := "sentTo", desc := "(I)I" } : Jvm.MethodName) ({ cls := "RoadToPortModel", name := "sentTo", desc := "(I)I" } : Jvm.MethodName)) ∈ zT := zj_in8 (i := 61) rfl rfl
theorem zw_8_52 : (Jvm.Cond.code ({ cls := "RoadToPortModel", name := "sentTo", desc := "(I)I" } : Jvm.MethodName) prog_14_method_90_code (2 : Nat) (Option.some Jvm.ClassFile.FieldType.int)) ∈ zT := zj_in8 (i := 62) rfl rfl
theorem zw_8_53 : (Jvm.Cond.methodLink "RoadToPortLaw" (126 : Nat) ({ cls := "RoadToPortModel", name := "cut", desc := "(II)I" } : Jvm.MethodName)) ∈ zT := zj_in8 (i := 63) rfl rfl
theorem zw_8_54 : (Jvm.Cond.instanceMethod ({ cls := "RoadToPortModel", name := "cut", desc := "(II)I" } : Jvm.MethodName)) ∈ zT := zj_in8 (i := 64) rfl rfl
theorem zw_8_55 : (Jvm.Cond.selects "RoadToPortModel" ({ cls := "RoadToPortModel", name := "cut", desc := "(II)I" } : Jvm.MethodName) ({ cls := "RoadToPortModel", name := "cut", desc := "(II)I" } : Jvm.MethodName)) ∈ zT := zj_in8 (i := 65) rfl rfl
theorem zw_8_56 : (Jvm.Cond.code ({ cls := "RoadToPortModel", name := "cut", desc := "(II)I" } : Jvm.MethodName) prog_14_method_92_code (5 : Nat) (Option.some Jvm.ClassFile.FieldType.int)) ∈ zT := zj_in8 (i := 66) rfl rfl
theorem zw_8_57 : (Jvm.Cond.methodLink "RoadToPortModel" (368 : Nat) ({ cls := "RoadToPortModel", name := "bits", desc := "(I)I" } : Jvm.MethodName)) ∈ zT := zj_in8 (i := 67) rfl rfl
theorem zw_8_58 : (Jvm.Cond.static ({ cls := "RoadToPortModel", name := "bits", desc := "(I)I" } : Jvm.MethodName)) ∈ zT := zj_in8 (i := 68) rfl rfl
theorem zw_8_59 : (Jvm.Cond.code ({ cls := "RoadToPortModel", name := "bits", desc := "(I)I" } : Jvm.MethodName) prog_14_method_10_code (3 : Nat) (Option.some Jvm.ClassFile.FieldType.int)) ∈ zT := zj_in8 (i := 69) rfl rfl
theorem zw_8_60 : (Jvm.Cond.methodLink "RoadToPortModel" (371 : Nat) ({ cls := "RoadToPortModel", name := "leads", desc := "(III)Z" } : Jvm.MethodName)) ∈ zT := zj_in8 (i := 70) rfl rfl
theorem zw_8_62 : (Jvm.Cond.instanceMethod ({ cls := "RoadToPortModel", name := "leads", desc := "(III)Z" } : Jvm.MethodName)) ∈ zT := zj_in8 (i := 72) rfl rfl
theorem zw_8_63 : (Jvm.Cond.code ({ cls := "RoadToPortModel", name := "leads", desc := "(III)Z" } : Jvm.MethodName) prog_14_method_91_code (8 : Nat) (Option.some Jvm.ClassFile.FieldType.boolean)) ∈ zT := zj_in8 (i := 73) rfl rfl
theorem zw_8_64 : (Jvm.Cond.methodLink "RoadToPortLaw" (130 : Nat) ({ cls := "RoadToPortModel", name := "cutting", desc := "()I" } : Jvm.MethodName)) ∈ zT := zj_in8 (i := 74) rfl rfl
theorem zw_8_65 : (Jvm.Cond.instanceMethod ({ cls := "RoadToPortModel", name := "cutting", desc := "()I" } : Jvm.MethodName)) ∈ zT := zj_in8 (i := 75) rfl rfl
theorem zw_8_66 : (Jvm.Cond.selects "RoadToPortModel" ({ cls := "RoadToPortModel", name := "cutting", desc := "()I" } : Jvm.MethodName) ({ cls := "RoadToPortModel", name := "cutting", desc := "()I" } : Jvm.MethodName)) ∈ zT := zj_in8 (i := 76) rfl rfl
theorem zw_8_67 : (Jvm.Cond.code ({ cls := "RoadToPortModel", name := "cutting", desc := "()I" } : Jvm.MethodName) prog_14_method_93_code (1 : Nat) (Option.some Jvm.ClassFile.FieldType.int)) ∈ zT := zj_in8 (i := 77) rfl rfl
theorem zw_8_68 : (Jvm.Cond.methodLink "RoadToPortLaw" (138 : Nat) ({ cls := "RoadToPortModel", name := "ship", desc := "(III)I" } : Jvm.MethodName)) ∈ zT := zj_in8 (i := 78) rfl rfl
theorem zw_8_69 : (Jvm.Cond.instanceMethod ({ cls := "RoadToPortModel", name := "ship", desc := "(III)I" } : Jvm.MethodName)) ∈ zT := zj_in8 (i := 79) rfl rfl
theorem zw_8_70 : (Jvm.Cond.selects "RoadToPortModel" ({ cls := "RoadToPortModel", name := "ship", desc := "(III)I" } : Jvm.MethodName) ({ cls := "RoadToPortModel", name := "ship", desc := "(III)I" } : Jvm.MethodName)) ∈ zT := zj_in8 (i := 80) rfl rfl
theorem zw_8_71 : (Jvm.Cond.code ({ cls := "RoadToPortModel", name := "ship", desc := "(III)I" } : Jvm.MethodName) prog_14_method_94_code (7 : Nat) (Option.some Jvm.ClassFile.FieldType.int)) ∈ zT := zj_in8 (i := 81) rfl rfl
theorem zw_8_72 : (Jvm.Cond.methodLink "RoadToPortModel" (374 : Nat) ({ cls := "RoadToPortModel", name := "common", desc := "(II)I" } : Jvm.MethodName)) ∈ zT := zj_in8 (i := 82) rfl rfl
theorem zw_8_73 : (Jvm.Cond.static ({ cls := "RoadToPortModel", name := "common", desc := "(II)I" } : Jvm.MethodName)) ∈ zT := zj_in8 (i := 83) rfl rfl
theorem zw_8_74 : (Jvm.Cond.code ({ cls := "RoadToPortModel", name := "common", desc := "(II)I" } : Jvm.MethodName) prog_14_method_13_code (5 : Nat) (Option.some Jvm.ClassFile.FieldType.int)) ∈ zT := zj_in8 (i := 84) rfl rfl
theorem zw_8_75 : (Jvm.Cond.methodLink "RoadToPortLaw" (142 : Nat) ({ cls := "RoadToPortModel", name := "turned", desc := "(I)I" } : Jvm.MethodName)) ∈ zT := zj_in8 (i := 85) rfl rfl
theorem zw_8_76 : (Jvm.Cond.instanceMethod ({ cls := "RoadToPortModel", name := "turned", desc := "(I)I" } : Jvm.MethodName)) ∈ zT := zj_in8 (i := 86) rfl rfl
theorem zw_8_77 : (Jvm.Cond.selects "RoadToPortModel" ({ cls := "RoadToPortModel", name := "turned", desc := "(I)I" } : Jvm.MethodName) ({ cls := "RoadToPortModel", name := "turned", desc := "(I)I" } : Jvm.MethodName)) ∈ zT := zj_in8 (i := 87) rfl rfl
theorem zw_8_78 : (Jvm.Cond.code ({ cls := "RoadToPortModel", name := "turned", desc := "(I)I" } : Jvm.MethodName) prog_14_method_96_code (8 : Nat) (Option.some Jvm.ClassFile.FieldType.int)) ∈ zT := zj_in8 (i := 88) rfl rfl
theorem zw_8_79 : (Jvm.Cond.methodLink "RoadToPortModel" (377 : Nat) ({ cls := "RoadToPortModel", name := "turns", desc := "(IIII)Z" } : Jvm.MethodName)) ∈ zT := zj_in8 (i := 89) rfl rfl
theorem zw_8_81 : (Jvm.Cond.instanceMethod ({ cls := "RoadToPortModel", name := "turns", desc := "(IIII)Z" } : Jvm.MethodName)) ∈ zT := zj_in8 (i := 91) rfl rfl
theorem zw_8_82 : (Jvm.Cond.code ({ cls := "RoadToPortModel", name := "turns", desc := "(IIII)Z" } : Jvm.MethodName) prog_14_method_95_code (7 : Nat) (Option.some Jvm.ClassFile.FieldType.boolean)) ∈ zT := zj_in8 (i := 92) rfl rfl
theorem zw_8_83 : (Jvm.Cond.methodLink "RoadToPortLaw" (146 : Nat) ({ cls := "RoadToPortModel", name := "least", desc := "()I" } : Jvm.MethodName)) ∈ zT := zj_in8 (i := 93) rfl rfl
theorem zw_8_84 : (Jvm.Cond.instanceMethod ({ cls := "RoadToPortModel", name := "least", desc := "()I" } : Jvm.MethodName)) ∈ zT := zj_in8 (i := 94) rfl rfl
theorem zw_8_85 : (Jvm.Cond.selects "RoadToPortModel" ({ cls := "RoadToPortModel", name := "least", desc := "()I" } : Jvm.MethodName) ({ cls := "RoadToPortModel", name := "least", desc := "()I" } : Jvm.MethodName)) ∈ zT := zj_in8 (i := 95) rfl rfl
theorem zw_8_86 : (Jvm.Cond.code ({ cls := "RoadToPortModel", name := "least", desc := "()I" } : Jvm.MethodName) prog_14_method_97_code (1 : Nat) (Option.some Jvm.ClassFile.FieldType.int)) ∈ zT := zj_in8 (i := 96) rfl rfl
theorem zw_8_87 : (Jvm.Cond.methodLink "RoadToPortLaw" (150 : Nat) ({ cls := "RoadToPortModel", name := "greatest", desc := "()I" } : Jvm.MethodName)) ∈ zT := zj_in8 (i := 97) rfl rfl
theorem zw_8_88 : (Jvm.Cond.instanceMethod ({ cls := "RoadToPortModel", name := "greatest", desc := "()I" } : Jvm.MethodName)) ∈ zT := zj_in8 (i := 98) rfl rfl
theorem zw_8_89 : (Jvm.Cond.selects "RoadToPortModel" ({ cls := "RoadToPortModel", name := "greatest", desc := "()I" } : Jvm.MethodName) ({ cls := "RoadToPortModel", name := "greatest", desc := "()I" } : Jvm.MethodName)) ∈ zT := zj_in8 (i := 99) rfl rfl
theorem zw_8_90 : (Jvm.Cond.code ({ cls := "RoadToPortModel", name := "greatest", desc := "()I" } : Jvm.MethodName) prog_14_method_98_code (1 : Nat) (Option.some Jvm.ClassFile.FieldType.int)) ∈ zT := zj_in8 (i := 100) rfl rfl
theorem zw_8_91 : (Jvm.Cond.methodLink "RoadToPortLaw" (154 : Nat) ({ cls := "RoadToPortModel", name := "there", desc := "(I)I" } : Jvm.MethodName)) ∈ zT := zj_in8 (i := 101) rfl rfl
theorem zw_8_92 : (Jvm.Cond.instanceMethod ({ cls := "RoadToPortModel", name := "there", desc := "(I)I" } : Jvm.MethodName)) ∈ zT := zj_in8 (i := 102) rfl rfl
theorem zw_8_93 : (Jvm.Cond.selects "RoadToPortModel" ({ cls := "RoadToPortModel", name := "there", desc := "(I)I" } : Jvm.MethodName) ({ cls := "RoadToPortModel", name := "there", desc := "(I)I" } : Jvm.MethodName)) ∈ zT := zj_in8 (i := 103) rfl rfl
theorem zw_8_94 : (Jvm.Cond.code ({ cls := "RoadToPortModel", name := "there", desc := "(I)I" } : Jvm.MethodName) prog_14_method_99_code (3 : Nat) (Option.some Jvm.ClassFile.FieldType.int)) ∈ zT := zj_in8 (i := 104) rfl rfl
theorem zw_8_95 : (Jvm.Cond.methodLink "RoadToPortLaw" (158 : Nat) ({ cls := "RoadToPortModel", name := "oath", desc := "(I)I" } : Jvm.MethodName)) ∈ zT := zj_in8 (i := 105) rfl rfl
theorem zw_8_96 : (Jvm.Cond.instanceMethod ({ cls := "RoadToPortModel", name := "oath", desc := "(I)I" } : Jvm.MethodName)) ∈ zT := zj_in8 (i := 106) rfl rfl
theorem zw_8_97 : (Jvm.Cond.selects "RoadToPortModel" ({ cls := "RoadToPortModel", name := "oath", desc := "(I)I" } : Jvm.MethodName) ({ cls := "RoadToPortModel", name := "oath", desc := "(I)I" } : Jvm.MethodName)) ∈ zT := zj_in8 (i := 107) rfl rfl
theorem zw_8_98 : (Jvm.Cond.code ({ cls := "RoadToPortModel", name := "oath", desc := "(I)I" } : Jvm.MethodName) prog_14_method_104_code (2 : Nat) (Option.some Jvm.ClassFile.FieldType.int)) ∈ zT := zj_in8 (i := 108) rfl rfl
theorem zw_8_99 : (Jvm.Cond.methodLink "RoadToPortModel" (384 : Nat) ({ cls := "RoadToPortModel", name := "writeWord", desc := "(J)V" } : Jvm.MethodName)) ∈ zT := zj_in8 (i := 109) rfl rfl
theorem zw_8_101 : (Jvm.Cond.instanceMethod ({ cls := "RoadToPortModel", name := "writeWord", desc := "(J)V" } : Jvm.MethodName)) ∈ zT := zj_in8 (i := 111) rfl rfl
theorem zw_8_102 : (Jvm.Cond.code ({ cls := "RoadToPortModel", name := "writeWord", desc := "(J)V" } : Jvm.MethodName) prog_14_method_101_code (3 : Nat) (Option.none : Option Jvm.ClassFile.FieldType)) ∈ zT := zj_in8 (i := 112) rfl rfl
theorem zw_8_103 : (Jvm.Cond.methodLink "RoadToPortModel" (388 : Nat) ({ cls := "RoadToPortModel", name := "write", desc := "(I)V" } : Jvm.MethodName)) ∈ zT := zj_in8 (i := 113) rfl rfl
theorem zw_8_105 : (Jvm.Cond.instanceMethod ({ cls := "RoadToPortModel", name := "write", desc := "(I)V" } : Jvm.MethodName)) ∈ zT := zj_in8 (i := 115) rfl rfl
theorem zw_8_106 : (Jvm.Cond.code ({ cls := "RoadToPortModel", name := "write", desc := "(I)V" } : Jvm.MethodName) prog_14_method_100_code (2 : Nat) (Option.none : Option Jvm.ClassFile.FieldType)) ∈ zT := zj_in8 (i := 116) rfl rfl
theorem zw_8_107 : (Jvm.Cond.methodLink "RoadToPortModel" (394 : Nat) ({ cls := "RoadToPortModel", name := "writeNext", desc := "(J)V" } : Jvm.MethodName)) ∈ zT := zj_in8 (i := 117) rfl rfl
theorem zw_8_109 : (Jvm.Cond.instanceMethod ({ cls := "RoadToPortModel", name := "writeNext", desc := "(J)V" } : Jvm.MethodName)) ∈ zT := zj_in8 (i := 119) rfl rfl
theorem zw_8_110 : (Jvm.Cond.code ({ cls := "RoadToPortModel", name := "writeNext", desc := "(J)V" } : Jvm.MethodName) prog_14_method_103_code (3 : Nat) (Option.none : Option Jvm.ClassFile.FieldType)) ∈ zT := zj_in8 (i := 120) rfl rfl
theorem zw_8_111 : (Jvm.Cond.methodLink "RoadToPortModel" (391 : Nat) ({ cls := "RoadToPortModel", name := "writeNumber", desc := "(I)V" } : Jvm.MethodName)) ∈ zT := zj_in8 (i := 121) rfl rfl
theorem zw_8_113 : (Jvm.Cond.instanceMethod ({ cls := "RoadToPortModel", name := "writeNumber", desc := "(I)V" } : Jvm.MethodName)) ∈ zT := zj_in8 (i := 123) rfl rfl
theorem zw_8_114 : (Jvm.Cond.code ({ cls := "RoadToPortModel", name := "writeNumber", desc := "(I)V" } : Jvm.MethodName) prog_14_method_102_code (2 : Nat) (Option.none : Option Jvm.ClassFile.FieldType)) ∈ zT := zj_in8 (i := 124) rfl rfl
theorem zw_8_115 : (Jvm.Cond.methodLink "RoadToPortLaw" (162 : Nat) ({ cls := "RoadToPortModel", name := "byteAt", desc := "(I)I" } : Jvm.MethodName)) ∈ zT := zj_in8 (i := 125) rfl rfl
theorem zw_8_116 : (Jvm.Cond.instanceMethod ({ cls := "RoadToPortModel", name := "byteAt", desc := "(I)I" } : Jvm.MethodName)) ∈ zT := zj_in8 (i := 126) rfl rfl
theorem zw_8_117 : (Jvm.Cond.selects "RoadToPortModel" ({ cls := "RoadToPortModel", name := "byteAt", desc := "(I)I" } : Jvm.MethodName) ({ cls := "RoadToPortModel", name := "byteAt", desc := "(I)I" } : Jvm.MethodName)) ∈ zT := zj_in8 (i := 127) rfl rfl
theorem zw_8_118 : (Jvm.Cond.code ({ cls := "RoadToPortModel", name := "byteAt", desc := "(I)I" } : Jvm.MethodName) prog_14_method_105_code (2 : Nat) (Option.some Jvm.ClassFile.FieldType.int)) ∈ zT := zj_in8 (i := 128) rfl rfl
theorem zw_8_119 : (Jvm.Cond.methodLink "RoadToPortLaw" (166 : Nat) ({ cls := "RoadToPortModel", name := "odds", desc := "(III)I" } : Jvm.MethodName)) ∈ zT := zj_in8 (i := 129) rfl rfl
theorem zw_8_120 : (Jvm.Cond.instanceMethod ({ cls := "RoadToPortModel", name := "odds", desc := "(III)I" } : Jvm.MethodName)) ∈ zT := zj_in8 (i := 130) rfl rfl
theorem zw_8_121 : (Jvm.Cond.selects "RoadToPortModel" ({ cls := "RoadToPortModel", name := "odds", desc := "(III)I" } : Jvm.MethodName) ({ cls := "RoadToPortModel", name := "odds", desc := "(III)I" } : Jvm.MethodName)) ∈ zT := zj_in8 (i := 131) rfl rfl
theorem zw_8_122 : (Jvm.Cond.code ({ cls := "RoadToPortModel", name := "odds", desc := "(III)I" } : Jvm.MethodName) prog_14_method_108_code (6 : Nat) (Option.some Jvm.ClassFile.FieldType.int)) ∈ zT := zj_in8 (i := 132) rfl rfl
theorem zw_8_123 : (Jvm.Cond.methodLink "RoadToPortModel" (397 : Nat) ({ cls := "RoadToPortModel", name := "layAside", desc := "()V" } : Jvm.MethodName)) ∈ zT := zj_in8 (i := 133) rfl rfl
theorem zw_8_125 : (Jvm.Cond.instanceMethod ({ cls := "RoadToPortModel", name := "layAside", desc := "()V" } : Jvm.MethodName)) ∈ zT := zj_in8 (i := 135) rfl rfl
theorem zw_8_126 : (Jvm.Cond.code ({ cls := "RoadToPortModel", name := "layAside", desc := "()V" } : Jvm.MethodName) prog_14_method_106_code (2 : Nat) (Option.none : Option Jvm.ClassFile.FieldType)) ∈ zT := zj_in8 (i := 136) rfl rfl
theorem zw_8_127 : (Jvm.Cond.methodLink "RoadToPortModel" (400 : Nat) ({ cls := "RoadToPortModel", name := "takeBack", desc := "()V" } : Jvm.MethodName)) ∈ zT := zj_in8 (i := 137) rfl rfl
theorem zw_8_129 : (Jvm.Cond.instanceMethod ({ cls := "RoadToPortModel", name := "takeBack", desc := "()V" } : Jvm.MethodName)) ∈ zT := zj_in8 (i := 139) rfl rfl
theorem zw_8_130 : (Jvm.Cond.code ({ cls := "RoadToPortModel", name := "takeBack", desc := "()V" } : Jvm.MethodName) prog_14_method_107_code (2 : Nat) (Option.none : Option Jvm.ClassFile.FieldType)) ∈ zT := zj_in8 (i := 140) rfl rfl
theorem zw_8_131 : (Jvm.Cond.methodLink "RoadToPortLaw" (170 : Nat) ({ cls := "RoadToPortModel", name := "book", desc := "(I)I" } : Jvm.MethodName)) ∈ zT := zj_in8 (i := 141) rfl rfl
theorem zw_8_132 : (Jvm.Cond.instanceMethod ({ cls := "RoadToPortModel", name := "book", desc := "(I)I" } : Jvm.MethodName)) ∈ zT := zj_in8 (i := 142) rfl rfl
theorem zw_8_133 : (Jvm.Cond.selects "RoadToPortModel" ({ cls := "RoadToPortModel", name := "book", desc := "(I)I" } : Jvm.MethodName) ({ cls := "RoadToPortModel", name := "book", desc := "(I)I" } : Jvm.MethodName)) ∈ zT := zj_in8 (i := 143) rfl rfl
theorem zw_8_134 : (Jvm.Cond.code ({ cls := "RoadToPortModel", name := "book", desc := "(I)I" } : Jvm.MethodName) prog_14_method_114_code (4 : Nat) (Option.some Jvm.ClassFile.FieldType.int)) ∈ zT := zj_in8 (i := 144) rfl rfl
theorem zw_8_135 : (Jvm.Cond.methodLink "RoadToPortModel" (415 : Nat) ({ cls := "RoadToPortModel", name := "readBookLine", desc := "()Z" } : Jvm.MethodName)) ∈ zT := zj_in8 (i := 145) rfl rfl
theorem zw_8_137 : (Jvm.Cond.instanceMethod ({ cls := "RoadToPortModel", name := "readBookLine", desc := "()Z" } : Jvm.MethodName)) ∈ zT := zj_in8 (i := 147) rfl rfl
theorem zw_8_138 : (Jvm.Cond.code ({ cls := "RoadToPortModel", name := "readBookLine", desc := "()Z" } : Jvm.MethodName) prog_14_method_112_code (3 : Nat) (Option.some Jvm.ClassFile.FieldType.boolean)) ∈ zT := zj_in8 (i := 148) rfl rfl
theorem zw_8_139 : (Jvm.Cond.methodLink "RoadToPortModel" (406 : Nat) ({ cls := "RoadToPortModel", name := "keep", desc := "(IZ)Z" } : Jvm.MethodName)) ∈ zT := zj_in8 (i := 149) rfl rfl
theorem zw_8_141 : (Jvm.Cond.instanceMethod ({ cls := "RoadToPortModel", name := "keep", desc := "(IZ)Z" } : Jvm.MethodName)) ∈ zT := zj_in8 (i := 151) rfl rfl
theorem zw_8_142 : (Jvm.Cond.code ({ cls := "RoadToPortModel", name := "keep", desc := "(IZ)Z" } : Jvm.MethodName) prog_14_method_109_code (3 : Nat) (Option.some Jvm.ClassFile.FieldType.boolean)) ∈ zT := zj_in8 (i := 152) rfl rfl
theorem zw_8_143 : (Jvm.Cond.methodLink "RoadToPortModel" (412 : Nat) ({ cls := "RoadToPortModel", name := "readManDoes", desc := "(I)Z" } : Jvm.MethodName)) ∈ zT := zj_in8 (i := 153) rfl rfl
theorem zw_8_145 : (Jvm.Cond.instanceMethod ({ cls := "RoadToPortModel", name := "readManDoes", desc := "(I)Z" } : Jvm.MethodName)) ∈ zT := zj_in8 (i := 155) rfl rfl
theorem zw_8_146 : (Jvm.Cond.code ({ cls := "RoadToPortModel", name := "readManDoes", desc := "(I)Z" } : Jvm.MethodName) prog_14_method_111_code (3 : Nat) (Option.some Jvm.ClassFile.FieldType.boolean)) ∈ zT := zj_in8 (i := 156) rfl rfl
theorem zw_8_147 : (Jvm.Cond.methodLink "RoadToPortModel" (403 : Nat) ({ cls := "RoadToPortModel", name := "readPort", desc := "()Z" } : Jvm.MethodName)) ∈ zT := zj_in8 (i := 157) rfl rfl
theorem zw_8_149 : (Jvm.Cond.instanceMethod ({ cls := "RoadToPortModel", name := "readPort", desc := "()Z" } : Jvm.MethodName)) ∈ zT := zj_in8 (i := 159) rfl rfl
theorem zw_8_150 : (Jvm.Cond.code ({ cls := "RoadToPortModel", name := "readPort", desc := "()Z" } : Jvm.MethodName) prog_14_method_110_code (1 : Nat) (Option.some Jvm.ClassFile.FieldType.boolean)) ∈ zT := zj_in8 (i := 160) rfl rfl
theorem zw_8_151 : (Jvm.Cond.methodLink "RoadToPortModel" (418 : Nat) ({ cls := "RoadToPortModel", name := "goBy", desc := "(I)I" } : Jvm.MethodName)) ∈ zT := zj_in8 (i := 161) rfl rfl
theorem zw_8_153 : (Jvm.Cond.instanceMethod ({ cls := "RoadToPortModel", name := "goBy", desc := "(I)I" } : Jvm.MethodName)) ∈ zT := zj_in8 (i := 163) rfl rfl
theorem zw_8_154 : (Jvm.Cond.code ({ cls := "RoadToPortModel", name := "goBy", desc := "(I)I" } : Jvm.MethodName) prog_14_method_113_code (4 : Nat) (Option.some Jvm.ClassFile.FieldType.int)) ∈ zT := zj_in8 (i := 164) rfl rfl
theorem zw_8_155 : (Jvm.Cond.methodLink "RoadToPortModel" (424 : Nat) ({ cls := "RoadToPortModel", name := "stay", desc := "(Z)V" } : Jvm.MethodName)) ∈ zT := zj_in8 (i := 165) rfl rfl
theorem zw_8_157 : (Jvm.Cond.instanceMethod ({ cls := "RoadToPortModel", name := "stay", desc := "(Z)V" } : Jvm.MethodName)) ∈ zT := zj_in8 (i := 167) rfl rfl
theorem zw_8_158 : (Jvm.Cond.code ({ cls := "RoadToPortModel", name := "stay", desc := "(Z)V" } : Jvm.MethodName) prog_14_method_115_code (4 : Nat) (Option.none : Option Jvm.ClassFile.FieldType)) ∈ zT := zj_in8 (i := 168) rfl rfl
theorem zw_8_159 : (Jvm.Cond.methodLink "RoadToPortLaw" (174 : Nat) ({ cls := "RoadToPortModel", name := "told", desc := "(I)I" } : Jvm.MethodName)) ∈ zT := zj_in8 (i := 169) rfl rfl
theorem zw_8_160 : (Jvm.Cond.instanceMethod ({ cls := "RoadToPortModel", name := "told", desc := "(I)I" } : Jvm.MethodName)) ∈ zT := zj_in8 (i := 170) rfl rfl
theorem zw_8_161 : (Jvm.Cond.selects "RoadToPortModel" ({ cls := "RoadToPortModel", name := "told", desc := "(I)I" } : Jvm.MethodName) ({ cls := "RoadToPortModel", name := "told", desc := "(I)I" } : Jvm.MethodName)) ∈ zT := zj_in8 (i := 171) rfl rfl
theorem zw_8_162 : (Jvm.Cond.code ({ cls := "RoadToPortModel", name := "told", desc := "(I)I" } : Jvm.MethodName) prog_14_method_116_code (2 : Nat) (Option.some Jvm.ClassFile.FieldType.int)) ∈ zT := zj_in8 (i := 172) rfl rfl
theorem zw_8_163 : (Jvm.Cond.methodLink "RoadToPortLaw" (178 : Nat) ({ cls := "RoadToPortModel", name := "sentence", desc := "()I" } : Jvm.MethodName)) ∈ zT := zj_in8 (i := 173) rfl rfl
theorem zw_8_164 : (Jvm.Cond.instanceMethod ({ cls := "RoadToPortModel", name := "sentence", desc := "()I" } : Jvm.MethodName)) ∈ zT := zj_in8 (i := 174) rfl rfl
theorem zw_8_165 : (Jvm.Cond.selects "RoadToPortModel" ({ cls := "RoadToPortModel", name := "sentence", desc := "()I" } : Jvm.MethodName) ({ cls := "RoadToPortModel", name := "sentence", desc := "()I" } : Jvm.MethodName)) ∈ zT := zj_in8 (i := 175) rfl rfl
theorem zw_8_166 : (Jvm.Cond.code ({ cls := "RoadToPortModel", name := "sentence", desc := "()I" } : Jvm.MethodName) prog_14_method_126_code (2 : Nat) (Option.some Jvm.ClassFile.FieldType.int)) ∈ zT := zj_in8 (i := 176) rfl rfl
theorem zw_8_167 : (Jvm.Cond.methodLink "RoadToPortModel" (461 : Nat) ({ cls := "RoadToPortModel", name := "readOr", desc := "()Z" } : Jvm.MethodName)) ∈ zT := zj_in8 (i := 177) rfl rfl
theorem zw_8_169 : (Jvm.Cond.instanceMethod ({ cls := "RoadToPortModel", name := "readOr", desc := "()Z" } : Jvm.MethodName)) ∈ zT := zj_in8 (i := 179) rfl rfl
theorem zw_8_170 : (Jvm.Cond.code ({ cls := "RoadToPortModel", name := "readOr", desc := "()Z" } : Jvm.MethodName) prog_14_method_119_code (2 : Nat) (Option.some Jvm.ClassFile.FieldType.boolean)) ∈ zT := zj_in8 (i := 180) rfl rfl
theorem zw_8_171 : (Jvm.Cond.methodLink "RoadToPortModel" (431 : Nat) ({ cls := "RoadToPortModel", name := "readAnd", desc := "()Z" } : Jvm.MethodName)) ∈ zT := zj_in8 (i := 181) rfl rfl
theorem zw_8_173 : (Jvm.Cond.instanceMethod ({ cls := "RoadToPortModel", name := "readAnd", desc := "()Z" } : Jvm.MethodName)) ∈ zT := zj_in8 (i := 183) rfl rfl
theorem zw_8_174 : (Jvm.Cond.code ({ cls := "RoadToPortModel", name := "readAnd", desc := "()Z" } : Jvm.MethodName) prog_14_method_120_code (2 : Nat) (Option.some Jvm.ClassFile.FieldType.boolean)) ∈ zT := zj_in8 (i := 184) rfl rfl
theorem zw_8_175 : (Jvm.Cond.methodLink "RoadToPortModel" (440 : Nat) ({ cls := "RoadToPortModel", name := "readSaid", desc := "()Z" } : Jvm.MethodName)) ∈ zT := zj_in8 (i := 185) rfl rfl
theorem zw_8_177 : (Jvm.Cond.instanceMethod ({ cls := "RoadToPortModel", name := "readSaid", desc := "()Z" } : Jvm.MethodName)) ∈ zT := zj_in8 (i := 187) rfl rfl
theorem zw_8_178 : (Jvm.Cond.code ({ cls := "RoadToPortModel", name := "readSaid", desc := "()Z" } : Jvm.MethodName) prog_14_method_121_code (4 : Nat) (Option.some Jvm.ClassFile.FieldType.boolean)) ∈ zT := zj_in8 (i := 188) rfl rfl
theorem zw_8_179 : (Jvm.Cond.methodLink "RoadToPortModel" (449 : Nat) ({ cls := "RoadToPortModel", name := "readBracket", desc := "()Z" } : Jvm.MethodName)) ∈ zT := zj_in8 (i := 189) rfl rfl
theorem zw_8_181 : (Jvm.Cond.instanceMethod ({ cls := "RoadToPortModel", name := "readBracket", desc := "()Z" } : Jvm.MethodName)) ∈ zT := zj_in8 (i := 191) rfl rfl
theorem zw_8_182 : (Jvm.Cond.code ({ cls := "RoadToPortModel", name := "readBracket", desc := "()Z" } : Jvm.MethodName) prog_14_method_123_code (1 : Nat) (Option.some Jvm.ClassFile.FieldType.boolean)) ∈ zT := zj_in8 (i := 192) rfl rfl
theorem zw_8_183 : (Jvm.Cond.methodLink "RoadToPortModel" (452 : Nat) ({ cls := "RoadToPortModel", name := "readNot", desc := "()Z" } : Jvm.MethodName)) ∈ zT := zj_in8 (i := 193) rfl rfl
theorem zw_8_185 : (Jvm.Cond.instanceMethod ({ cls := "RoadToPortModel", name := "readNot", desc := "()Z" } : Jvm.MethodName)) ∈ zT := zj_in8 (i := 195) rfl rfl
theorem zw_8_186 : (Jvm.Cond.code ({ cls := "RoadToPortModel", name := "readNot", desc := "()Z" } : Jvm.MethodName) prog_14_method_122_code (1 : Nat) (Option.some Jvm.ClassFile.FieldType.boolean)) ∈ zT := zj_in8 (i := 196) rfl rfl
theorem zw_8_187 : (Jvm.Cond.methodLink "RoadToPortModel" (437 : Nat) ({ cls := "RoadToPortModel", name := "saysOne", desc := "(IIII)I" } : Jvm.MethodName)) ∈ zT := zj_in8 (i := 197) rfl rfl
theorem zw_8_189 : (Jvm.Cond.instanceMethod ({ cls := "RoadToPortModel", name := "saysOne", desc := "(IIII)I" } : Jvm.MethodName)) ∈ zT := zj_in8 (i := 199) rfl rfl
theorem zw_8_190 : (Jvm.Cond.code ({ cls := "RoadToPortModel", name := "saysOne", desc := "(IIII)I" } : Jvm.MethodName) prog_14_method_118_code (6 : Nat) (Option.some Jvm.ClassFile.FieldType.int)) ∈ zT := zj_in8 (i := 200) rfl rfl
theorem zw_8_191 : (Jvm.Cond.methodLink "RoadToPortModel" (455 : Nat) ({ cls := "RoadToPortModel", name := "readOf", desc := "(I)Z" } : Jvm.MethodName)) ∈ zT := zj_in8 (i := 201) rfl rfl
theorem zw_8_193 : (Jvm.Cond.instanceMethod ({ cls := "RoadToPortModel", name := "readOf", desc := "(I)Z" } : Jvm.MethodName)) ∈ zT := zj_in8 (i := 203) rfl rfl
theorem zw_8_194 : (Jvm.Cond.code ({ cls := "RoadToPortModel", name := "readOf", desc := "(I)Z" } : Jvm.MethodName) prog_14_method_124_code (2 : Nat) (Option.some Jvm.ClassFile.FieldType.boolean)) ∈ zT := zj_in8 (i := 204) rfl rfl
theorem zw_8_195 : (Jvm.Cond.methodLink "RoadToPortModel" (464 : Nat) ({ cls := "RoadToPortModel", name := "readPlaceName", desc := "()Z" } : Jvm.MethodName)) ∈ zT := zj_in8 (i := 205) rfl rfl
theorem zw_8_197 : (Jvm.Cond.instanceMethod ({ cls := "RoadToPortModel", name := "readPlaceName", desc := "()Z" } : Jvm.MethodName)) ∈ zT := zj_in8 (i := 207) rfl rfl
theorem zw_8_198 : (Jvm.Cond.code ({ cls := "RoadToPortModel", name := "readPlaceName", desc := "()Z" } : Jvm.MethodName) prog_14_method_117_code (1 : Nat) (Option.some Jvm.ClassFile.FieldType.boolean)) ∈ zT := zj_in8 (i := 208) rfl rfl
theorem zw_8_199 : (Jvm.Cond.methodLink "RoadToPortModel" (458 : Nat) ({ cls := "RoadToPortModel", name := "readCompare", desc := "(I)Z" } : Jvm.MethodName)) ∈ zT := zj_in8 (i := 209) rfl rfl
theorem zw_8_201 : (Jvm.Cond.instanceMethod ({ cls := "RoadToPortModel", name := "readCompare", desc := "(I)Z" } : Jvm.MethodName)) ∈ zT := zj_in8 (i := 211) rfl rfl
theorem zw_8_202 : (Jvm.Cond.code ({ cls := "RoadToPortModel", name := "readCompare", desc := "(I)Z" } : Jvm.MethodName) prog_14_method_125_code (3 : Nat) (Option.some Jvm.ClassFile.FieldType.boolean)) ∈ zT := zj_in8 (i := 212) rfl rfl
theorem zw_8_203 : (Jvm.Cond.methodLink "RoadToPortLaw" (182 : Nat) ({ cls := "RoadToPortModel", name := "said", desc := "(I)I" } : Jvm.MethodName)) ∈ zT := zj_in8 (i := 213) rfl rfl
theorem zw_8_204 : (Jvm.Cond.instanceMethod ({ cls := "RoadToPortModel", name := "said", desc := "(I)I" } : Jvm.MethodName)) ∈ zT := zj_in8 (i := 214) rfl rfl
theorem zw_8_205 : (Jvm.Cond.selects "RoadToPortModel" ({ cls := "RoadToPortModel", name := "said", desc := "(I)I" } : Jvm.MethodName) ({ cls := "RoadToPortModel", name := "said", desc := "(I)I" } : Jvm.MethodName)) ∈ zT := zj_in8 (i := 215) rfl rfl
theorem zw_8_206 : (Jvm.Cond.code ({ cls := "RoadToPortModel", name := "said", desc := "(I)I" } : Jvm.MethodName) prog_14_method_128_code (4 : Nat) (Option.some Jvm.ClassFile.FieldType.int)) ∈ zT := zj_in8 (i := 216) rfl rfl
theorem zw_8_207 : (Jvm.Cond.methodLink "RoadToPortModel" (467 : Nat) ({ cls := "RoadToPortModel", name := "holds", desc := "(II)Z" } : Jvm.MethodName)) ∈ zT := zj_in8 (i := 217) rfl rfl
theorem zw_8_209 : (Jvm.Cond.instanceMethod ({ cls := "RoadToPortModel", name := "holds", desc := "(II)Z" } : Jvm.MethodName)) ∈ zT := zj_in8 (i := 219) rfl rfl
theorem zw_8_210 : (Jvm.Cond.code ({ cls := "RoadToPortModel", name := "holds", desc := "(II)Z" } : Jvm.MethodName) prog_14_method_127_code (8 : Nat) (Option.some Jvm.ClassFile.FieldType.boolean)) ∈ zT := zj_in8 (i := 220) rfl rfl
theorem zw_8_211 : (Jvm.Cond.methodLink "RoadToPortLaw" (186 : Nat) ({ cls := "RoadToPortModel", name := "image", desc := "(I)Z" } : Jvm.MethodName)) ∈ zT := zj_in8 (i := 221) rfl rfl
theorem zw_8_212 : (Jvm.Cond.instanceMethod ({ cls := "RoadToPortModel", name := "image", desc := "(I)Z" } : Jvm.MethodName)) ∈ zT := zj_in8 (i := 222) rfl rfl
theorem zw_8_213 : (Jvm.Cond.selects "RoadToPortModel" ({ cls := "RoadToPortModel", name := "image", desc := "(I)Z" } : Jvm.MethodName) ({ cls := "RoadToPortModel", name := "image", desc := "(I)Z" } : Jvm.MethodName)) ∈ zT := zj_in8 (i := 223) rfl rfl
theorem zw_8_214 : (Jvm.Cond.code ({ cls := "RoadToPortModel", name := "image", desc := "(I)Z" } : Jvm.MethodName) prog_14_method_129_code (3 : Nat) (Option.some Jvm.ClassFile.FieldType.boolean)) ∈ zT := zj_in8 (i := 224) rfl rfl
theorem zw_8_215 : (Jvm.Cond.methodLink "RoadToPortLaw" (190 : Nat) ({ cls := "RoadToPortModel", name := "restore", desc := "(I)Z" } : Jvm.MethodName)) ∈ zT := zj_in8 (i := 225) rfl rfl
theorem zw_8_216 : (Jvm.Cond.instanceMethod ({ cls := "RoadToPortModel", name := "restore", desc := "(I)Z" } : Jvm.MethodName)) ∈ zT := zj_in8 (i := 226) rfl rfl
theorem zw_8_217 : (Jvm.Cond.selects "RoadToPortModel" ({ cls := "RoadToPortModel", name := "restore", desc := "(I)Z" } : Jvm.MethodName) ({ cls := "RoadToPortModel", name := "restore", desc := "(I)Z" } : Jvm.MethodName)) ∈ zT := zj_in8 (i := 227) rfl rfl
theorem zw_8_218 : (Jvm.Cond.code ({ cls := "RoadToPortModel", name := "restore", desc := "(I)Z" } : Jvm.MethodName) prog_14_method_130_code (3 : Nat) (Option.some Jvm.ClassFile.FieldType.boolean)) ∈ zT := zj_in8 (i := 228) rfl rfl
theorem zw_8_219 : (Jvm.Cond.methodLink "RoadToPortLaw" (194 : Nat) ({ cls := "RoadToPortModel", name := "count", desc := "(I)I" } : Jvm.MethodName)) ∈ zT := zj_in8 (i := 229) rfl rfl
theorem zw_8_220 : (Jvm.Cond.instanceMethod ({ cls := "RoadToPortModel", name := "count", desc := "(I)I" } : Jvm.MethodName)) ∈ zT := zj_in8 (i := 230) rfl rfl
theorem zw_8_221 : (Jvm.Cond.selects "RoadToPortModel" ({ cls := "RoadToPortModel", name := "count", desc := "(I)I" } : Jvm.MethodName) ({ cls := "RoadToPortModel", name := "count", desc := "(I)I" } : Jvm.MethodName)) ∈ zT := zj_in8 (i := 231) rfl rfl
theorem zw_8_222 : (Jvm.Cond.code ({ cls := "RoadToPortModel", name := "count", desc := "(I)I" } : Jvm.MethodName) prog_14_method_131_code (2 : Nat) (Option.some Jvm.ClassFile.FieldType.int)) ∈ zT := zj_in8 (i := 232) rfl rfl
theorem zw_9_0 : (Jvm.Cond.fieldLink "java/lang/String" (9 : Nat) "java/lang/String" "value" "[B") ∈ zT := zj_in9 (i := 10) rfl rfl
theorem zw_9_1 : (Jvm.Cond.fieldLink "java/lang/String" (15 : Nat) "java/lang/String" "coder" "B") ∈ zT := zj_in9 (i := 11) rfl rfl
theorem zw_0_0 : (Jvm.Cond.selects "RoadToPort$Reader" ({ cls := "RoadToPort$Reader", name := "readRun", desc := "()V" } : Jvm.MethodName) ({ cls := "RoadToPort$Reader", name := "readRun", desc := "()V" } : Jvm.MethodName)) ∈ zT := zj_in0 (i := 0) rfl rfl
theorem zw_0_1 : (Jvm.Cond.selects "RoadToPort$Land" ({ cls := "RoadToPort$Land", name := "readLine", desc := "(LRoadToPort$Reader;)V" } : Jvm.MethodName) ({ cls := "RoadToPort$Land", name := "readLine", desc := "(LRoadToPort$Reader;)V" } : Jvm.MethodName)) ∈ zT := zj_in0 (i := 1) rfl rfl
theorem zw_0_2 : (Jvm.Cond.selects "RoadToPort$Land" ({ cls := "RoadToPort$Land", name := "readPlace", desc := "(LRoadToPort$Reader;)V" } : Jvm.MethodName) ({ cls := "RoadToPort$Land", name := "readPlace", desc := "(LRoadToPort$Reader;)V" } : Jvm.MethodName)) ∈ zT := zj_in0 (i := 2) rfl rfl
theorem zw_0_3 : (Jvm.Cond.selects "RoadToPort$Land" ({ cls := "RoadToPort$Land", name := "freshName", desc := "(LRoadToPort$Reader;)J" } : Jvm.MethodName) ({ cls := "RoadToPort$Land", name := "freshName", desc := "(LRoadToPort$Reader;)J" } : Jvm.MethodName)) ∈ zT := zj_in0 (i := 3) rfl rfl
theorem zw_0_4 : (Jvm.Cond.selects "RoadToPort$Land" ({ cls := "RoadToPort$Land", name := "readRoad", desc := "(LRoadToPort$Reader;)V" } : Jvm.MethodName) ({ cls := "RoadToPort$Land", name := "readRoad", desc := "(LRoadToPort$Reader;)V" } : Jvm.MethodName)) ∈ zT := zj_in0 (i := 4) rfl rfl
theorem zw_0_5 : (Jvm.Cond.selects "RoadToPort$Land" ({ cls := "RoadToPort$Land", name := "readMan", desc := "(LRoadToPort$Reader;)V" } : Jvm.MethodName) ({ cls := "RoadToPort$Land", name := "readMan", desc := "(LRoadToPort$Reader;)V" } : Jvm.MethodName)) ∈ zT := zj_in0 (i := 5) rfl rfl
theorem zw_0_6 : (Jvm.Cond.selects "RoadToPort$Land" ({ cls := "RoadToPort$Land", name := "readKin", desc := "(LRoadToPort$Reader;)V" } : Jvm.MethodName) ({ cls := "RoadToPort$Land", name := "readKin", desc := "(LRoadToPort$Reader;)V" } : Jvm.MethodName)) ∈ zT := zj_in0 (i := 6) rfl rfl
theorem zw_0_7 : (Jvm.Cond.selects "RoadToPort$Land" ({ cls := "RoadToPort$Land", name := "measure", desc := "()V" } : Jvm.MethodName) ({ cls := "RoadToPort$Land", name := "measure", desc := "()V" } : Jvm.MethodName)) ∈ zT := zj_in0 (i := 7) rfl rfl
theorem zw_0_8 : (Jvm.Cond.selects "RoadToPort$Land" ({ cls := "RoadToPort$Land", name := "findWays", desc := "()V" } : Jvm.MethodName) ({ cls := "RoadToPort$Land", name := "findWays", desc := "()V" } : Jvm.MethodName)) ∈ zT := zj_in0 (i := 8) rfl rfl
theorem zw_0_9 : (Jvm.Cond.selects "RoadToPort$Land" ({ cls := "RoadToPort$Land", name := "firstStep", desc := "(II)I" } : Jvm.MethodName) ({ cls := "RoadToPort$Land", name := "firstStep", desc := "(II)I" } : Jvm.MethodName)) ∈ zT := zj_in0 (i := 9) rfl rfl
theorem zw_0_10 : (Jvm.Cond.selects "RoadToPort$Folk" ({ cls := "RoadToPort$Folk", name := "put", desc := "(III)V" } : Jvm.MethodName) ({ cls := "RoadToPort$Folk", name := "put", desc := "(III)V" } : Jvm.MethodName)) ∈ zT := zj_in0 (i := 10) rfl rfl
theorem zw_0_11 : (Jvm.Cond.selects "RoadToPort$Folk" ({ cls := "RoadToPort$Folk", name := "more", desc := "(III)V" } : Jvm.MethodName) ({ cls := "RoadToPort$Folk", name := "more", desc := "(III)V" } : Jvm.MethodName)) ∈ zT := zj_in0 (i := 11) rfl rfl
theorem zw_0_12 : (Jvm.Cond.selects "RoadToPort" ({ cls := "RoadToPort", name := "keptIfDone", desc := "(I)I" } : Jvm.MethodName) ({ cls := "RoadToPort", name := "keptIfDone", desc := "(I)I" } : Jvm.MethodName)) ∈ zT := zj_in0 (i := 12) rfl rfl
theorem zw_0_13 : (Jvm.Cond.selects "RoadToPort$Folk" ({ cls := "RoadToPort$Folk", name := "goDay", desc := "(LRoadToPort$Land;)V" } : Jvm.MethodName) ({ cls := "RoadToPort$Folk", name := "goDay", desc := "(LRoadToPort$Land;)V" } : Jvm.MethodName)) ∈ zT := zj_in0 (i := 13) rfl rfl
theorem zw_0_14 : (Jvm.Cond.selects "RoadToPort$Folk" ({ cls := "RoadToPort$Folk", name := "waitForShip", desc := "(LRoadToPort$Land;I)V" } : Jvm.MethodName) ({ cls := "RoadToPort$Folk", name := "waitForShip", desc := "(LRoadToPort$Land;I)V" } : Jvm.MethodName)) ∈ zT := zj_in0 (i := 14) rfl rfl
theorem zw_0_15 : (Jvm.Cond.selects "RoadToPort$Folk" ({ cls := "RoadToPort$Folk", name := "draw", desc := "(I)I" } : Jvm.MethodName) ({ cls := "RoadToPort$Folk", name := "draw", desc := "(I)I" } : Jvm.MethodName)) ∈ zT := zj_in0 (i := 15) rfl rfl
theorem zw_0_16 : (Jvm.Cond.selects "RoadToPort$Folk" ({ cls := "RoadToPort$Folk", name := "walk", desc := "(LRoadToPort$Land;I)V" } : Jvm.MethodName) ({ cls := "RoadToPort$Folk", name := "walk", desc := "(LRoadToPort$Land;I)V" } : Jvm.MethodName)) ∈ zT := zj_in0 (i := 16) rfl rfl
theorem zw_0_17 : (Jvm.Cond.selects "RoadToPort$Folk" ({ cls := "RoadToPort$Folk", name := "meetsFord", desc := "(LRoadToPort$Land;II)Z" } : Jvm.MethodName) ({ cls := "RoadToPort$Folk", name := "meetsFord", desc := "(LRoadToPort$Land;II)Z" } : Jvm.MethodName)) ∈ zT := zj_in0 (i := 17) rfl rfl
theorem zw_0_18 : (Jvm.Cond.selects "RoadToPort$Folk" ({ cls := "RoadToPort$Folk", name := "step", desc := "(LRoadToPort$Land;II)V" } : Jvm.MethodName) ({ cls := "RoadToPort$Folk", name := "step", desc := "(LRoadToPort$Land;II)V" } : Jvm.MethodName)) ∈ zT := zj_in0 (i := 18) rfl rfl
theorem zw_0_19 : (Jvm.Cond.selects "RoadToPort$Sender" ({ cls := "RoadToPort$Sender", name := "weigh", desc := "(LRoadToPort$Land;LRoadToPort$Folk;II)V" } : Jvm.MethodName) ({ cls := "RoadToPort$Sender", name := "weigh", desc := "(LRoadToPort$Land;LRoadToPort$Folk;II)V" } : Jvm.MethodName)) ∈ zT := zj_in0 (i := 19) rfl rfl
theorem zw_0_20 : (Jvm.Cond.selects "RoadToPort$Sender" ({ cls := "RoadToPort$Sender", name := "spread", desc := "(II)V" } : Jvm.MethodName) ({ cls := "RoadToPort$Sender", name := "spread", desc := "(II)V" } : Jvm.MethodName)) ∈ zT := zj_in0 (i := 20) rfl rfl
theorem zw_0_21 : (Jvm.Cond.selects "RoadToPort$Cutter" ({ cls := "RoadToPort$Cutter", name := "flow", desc := "(LRoadToPort$Land;IIII)I" } : Jvm.MethodName) ({ cls := "RoadToPort$Cutter", name := "flow", desc := "(LRoadToPort$Land;IIII)I" } : Jvm.MethodName)) ∈ zT := zj_in0 (i := 21) rfl rfl
theorem zw_0_22 : (Jvm.Cond.selects "RoadToPort$Cutter" ({ cls := "RoadToPort$Cutter", name := "search", desc := "(LRoadToPort$Land;III)Z" } : Jvm.MethodName) ({ cls := "RoadToPort$Cutter", name := "search", desc := "(LRoadToPort$Land;III)Z" } : Jvm.MethodName)) ∈ zT := zj_in0 (i := 22) rfl rfl
theorem zw_0_23 : (Jvm.Cond.selects "RoadToPort$Cutter" ({ cls := "RoadToPort$Cutter", name := "openEnd", desc := "(LRoadToPort$Land;III)I" } : Jvm.MethodName) ({ cls := "RoadToPort$Cutter", name := "openEnd", desc := "(LRoadToPort$Land;III)I" } : Jvm.MethodName)) ∈ zT := zj_in0 (i := 23) rfl rfl
theorem zw_0_24 : (Jvm.Cond.selects "RoadToPort$Cutter" ({ cls := "RoadToPort$Cutter", name := "push", desc := "(LRoadToPort$Land;II)V" } : Jvm.MethodName) ({ cls := "RoadToPort$Cutter", name := "push", desc := "(LRoadToPort$Land;II)V" } : Jvm.MethodName)) ∈ zT := zj_in0 (i := 24) rfl rfl
theorem zw_0_25 : (Jvm.Cond.selects "RoadToPort$Tracker" ({ cls := "RoadToPort$Tracker", name := "goesOnTo", desc := "(II)Z" } : Jvm.MethodName) ({ cls := "RoadToPort$Tracker", name := "goesOnTo", desc := "(II)Z" } : Jvm.MethodName)) ∈ zT := zj_in0 (i := 25) rfl rfl
theorem zw_0_26 : (Jvm.Cond.selects "RoadToPort$Tracker" ({ cls := "RoadToPort$Tracker", name := "goesBackFrom", desc := "(III)Z" } : Jvm.MethodName) ({ cls := "RoadToPort$Tracker", name := "goesBackFrom", desc := "(III)Z" } : Jvm.MethodName)) ∈ zT := zj_in0 (i := 26) rfl rfl
theorem zw_0_27 : (Jvm.Cond.selects "RoadToPort$Tracker" ({ cls := "RoadToPort$Tracker", name := "mark", desc := "(IIII)V" } : Jvm.MethodName) ({ cls := "RoadToPort$Tracker", name := "mark", desc := "(IIII)V" } : Jvm.MethodName)) ∈ zT := zj_in0 (i := 27) rfl rfl
theorem zw_0_28 : (Jvm.Cond.selects "RoadToPort$Tracker" ({ cls := "RoadToPort$Tracker", name := "tell", desc := "(I)I" } : Jvm.MethodName) ({ cls := "RoadToPort$Tracker", name := "tell", desc := "(I)I" } : Jvm.MethodName)) ∈ zT := zj_in0 (i := 28) rfl rfl
theorem zw_0_29 : (Jvm.Cond.selects "RoadToPort$Scribe" ({ cls := "RoadToPort$Scribe", name := "name", desc := "(J)V" } : Jvm.MethodName) ({ cls := "RoadToPort$Scribe", name := "name", desc := "(J)V" } : Jvm.MethodName)) ∈ zT := zj_in0 (i := 29) rfl rfl
theorem zw_0_30 : (Jvm.Cond.selects "RoadToPort$Scribe" ({ cls := "RoadToPort$Scribe", name := "sign", desc := "(I)V" } : Jvm.MethodName) ({ cls := "RoadToPort$Scribe", name := "sign", desc := "(I)V" } : Jvm.MethodName)) ∈ zT := zj_in0 (i := 30) rfl rfl
theorem zw_0_31 : (Jvm.Cond.selects "RoadToPort$Scribe" ({ cls := "RoadToPort$Scribe", name := "words", desc := "(Ljava/lang/String;)V" } : Jvm.MethodName) ({ cls := "RoadToPort$Scribe", name := "words", desc := "(Ljava/lang/String;)V" } : Jvm.MethodName)) ∈ zT := zj_in0 (i := 31) rfl rfl
theorem zw_0_32 : (Jvm.Cond.selects "RoadToPort$Scribe" ({ cls := "RoadToPort$Scribe", name := "digits", desc := "(I)V" } : Jvm.MethodName) ({ cls := "RoadToPort$Scribe", name := "digits", desc := "(I)V" } : Jvm.MethodName)) ∈ zT := zj_in0 (i := 32) rfl rfl
theorem zw_0_33 : (Jvm.Cond.selects "RoadToPort$Ledger" ({ cls := "RoadToPort$Ledger", name := "readLine", desc := "(LRoadToPort$Reader;LRoadToPort$Land;)V" } : Jvm.MethodName) ({ cls := "RoadToPort$Ledger", name := "readLine", desc := "(LRoadToPort$Reader;LRoadToPort$Land;)V" } : Jvm.MethodName)) ∈ zT := zj_in0 (i := 33) rfl rfl
theorem zw_0_34 : (Jvm.Cond.selects "RoadToPort$Ledger" ({ cls := "RoadToPort$Ledger", name := "readAct", desc := "(LRoadToPort$Reader;LRoadToPort$Land;I)V" } : Jvm.MethodName) ({ cls := "RoadToPort$Ledger", name := "readAct", desc := "(LRoadToPort$Reader;LRoadToPort$Land;I)V" } : Jvm.MethodName)) ∈ zT := zj_in0 (i := 34) rfl rfl
theorem zw_0_35 : (Jvm.Cond.selects "RoadToPort$Ledger" ({ cls := "RoadToPort$Ledger", name := "liveLine", desc := "(LRoadToPort$Land;LRoadToPort$Folk;I)I" } : Jvm.MethodName) ({ cls := "RoadToPort$Ledger", name := "liveLine", desc := "(LRoadToPort$Land;LRoadToPort$Folk;I)I" } : Jvm.MethodName)) ∈ zT := zj_in0 (i := 35) rfl rfl
theorem zw_0_36 : (Jvm.Cond.selects "RoadToPort$Phrase" ({ cls := "RoadToPort$Phrase", name := "readCond", desc := "(LRoadToPort$Reader;LRoadToPort$Land;I)V" } : Jvm.MethodName) ({ cls := "RoadToPort$Phrase", name := "readCond", desc := "(LRoadToPort$Reader;LRoadToPort$Land;I)V" } : Jvm.MethodName)) ∈ zT := zj_in0 (i := 36) rfl rfl
theorem zw_0_37 : (Jvm.Cond.selects "RoadToPort$Phrase" ({ cls := "RoadToPort$Phrase", name := "readAll", desc := "(LRoadToPort$Reader;LRoadToPort$Land;I)V" } : Jvm.MethodName) ({ cls := "RoadToPort$Phrase", name := "readAll", desc := "(LRoadToPort$Reader;LRoadToPort$Land;I)V" } : Jvm.MethodName)) ∈ zT := zj_in0 (i := 37) rfl rfl
theorem zw_0_38 : (Jvm.Cond.selects "RoadToPort$Phrase" ({ cls := "RoadToPort$Phrase", name := "readOne", desc := "(LRoadToPort$Reader;LRoadToPort$Land;I)V" } : Jvm.MethodName) ({ cls := "RoadToPort$Phrase", name := "readOne", desc := "(LRoadToPort$Reader;LRoadToPort$Land;I)V" } : Jvm.MethodName)) ∈ zT := zj_in0 (i := 38) rfl rfl
theorem zw_0_39 : (Jvm.Cond.selects "RoadToPort$Phrase" ({ cls := "RoadToPort$Phrase", name := "add", desc := "(III)V" } : Jvm.MethodName) ({ cls := "RoadToPort$Phrase", name := "add", desc := "(III)V" } : Jvm.MethodName)) ∈ zT := zj_in0 (i := 39) rfl rfl
theorem zw_0_40 : (Jvm.Cond.selects "RoadToPort$Phrase" ({ cls := "RoadToPort$Phrase", name := "isSo", desc := "(LRoadToPort$Land;LRoadToPort$Folk;II)Z" } : Jvm.MethodName) ({ cls := "RoadToPort$Phrase", name := "isSo", desc := "(LRoadToPort$Land;LRoadToPort$Folk;II)Z" } : Jvm.MethodName)) ∈ zT := zj_in0 (i := 40) rfl rfl
theorem zw_0_41 : (Jvm.Cond.selects "RoadToPort$Phrase" ({ cls := "RoadToPort$Phrase", name := "compares", desc := "(II)Z" } : Jvm.MethodName) ({ cls := "RoadToPort$Phrase", name := "compares", desc := "(II)Z" } : Jvm.MethodName)) ∈ zT := zj_in0 (i := 41) rfl rfl
theorem zw_0_42n : (Jvm.Cond.selects "RoadToPort" ({ cls := "RoadToPort", name := "isKept", desc := "(I)Z" } : Jvm.MethodName) ({ cls := "RoadToPort", name := "isKept", desc := "(I)Z" } : Jvm.MethodName)) ∈ zT := zj_in0 (i := 42) rfl rfl
theorem zw_0_42 : (Jvm.Cond.selects "java/lang/Throwable" ({ cls := "java/lang/Throwable", name := "fillInStackTrace", desc := "(I)Ljava/lang/Throwable;" } : Jvm.MethodName) ({ cls := "java/lang/Throwable", name := "fillInStackTrace", desc := "(I)Ljava/lang/Throwable;" } : Jvm.MethodName)) ∈ zT := zj_in0 (i := 43) rfl rfl
theorem zw_0_43 : (Jvm.Cond.selects "RoadToPort$Planner" ({ cls := "RoadToPort$Planner", name := "weighMilestones", desc := "(LRoadToPort$Land;LRoadToPort$Folk;I)V" } : Jvm.MethodName) ({ cls := "RoadToPort$Planner", name := "weighMilestones", desc := "(LRoadToPort$Land;LRoadToPort$Folk;I)V" } : Jvm.MethodName)) ∈ zT := zj_in0 (i := 44) rfl rfl
theorem zw_0_44 : (Jvm.Cond.selects "RoadToPort$Planner" ({ cls := "RoadToPort$Planner", name := "weighDay", desc := "(IIIII)V" } : Jvm.MethodName) ({ cls := "RoadToPort$Planner", name := "weighDay", desc := "(IIIII)V" } : Jvm.MethodName)) ∈ zT := zj_in0 (i := 45) rfl rfl
theorem zw_0_45 : (Jvm.Cond.selects "RoadToPort$Planner" ({ cls := "RoadToPort$Planner", name := "worth", desc := "(III)J" } : Jvm.MethodName) ({ cls := "RoadToPort$Planner", name := "worth", desc := "(III)J" } : Jvm.MethodName)) ∈ zT := zj_in0 (i := 46) rfl rfl
theorem zw_0_46 : (Jvm.Cond.selects "RoadToPort$Planner" ({ cls := "RoadToPort$Planner", name := "choose", desc := "(IIIIZ)V" } : Jvm.MethodName) ({ cls := "RoadToPort$Planner", name := "choose", desc := "(IIIIZ)V" } : Jvm.MethodName)) ∈ zT := zj_in0 (i := 47) rfl rfl
theorem zw_0_47 : (Jvm.Cond.selects "RoadToPortModel" ({ cls := "RoadToPortModel", name := "come", desc := "(I)V" } : Jvm.MethodName) ({ cls := "RoadToPortModel", name := "come", desc := "(I)V" } : Jvm.MethodName)) ∈ zT := zj_in0 (i := 48) rfl rfl
theorem zw_0_48 : (Jvm.Cond.selects "RoadToPortModel" ({ cls := "RoadToPortModel", name := "begin", desc := "(I)V" } : Jvm.MethodName) ({ cls := "RoadToPortModel", name := "begin", desc := "(I)V" } : Jvm.MethodName)) ∈ zT := zj_in0 (i := 49) rfl rfl
theorem zw_0_49 : (Jvm.Cond.selects "RoadToPortModel" ({ cls := "RoadToPortModel", name := "take", desc := "()I" } : Jvm.MethodName) ({ cls := "RoadToPortModel", name := "take", desc := "()I" } : Jvm.MethodName)) ∈ zT := zj_in0 (i := 50) rfl rfl
theorem zw_0_50 : (Jvm.Cond.selects "RoadToPortModel" ({ cls := "RoadToPortModel", name := "go", desc := "()V" } : Jvm.MethodName) ({ cls := "RoadToPortModel", name := "go", desc := "()V" } : Jvm.MethodName)) ∈ zT := zj_in0 (i := 51) rfl rfl
theorem zw_0_51 : (Jvm.Cond.selects "RoadToPortModel" ({ cls := "RoadToPortModel", name := "tapeAt", desc := "(I)I" } : Jvm.MethodName) ({ cls := "RoadToPortModel", name := "tapeAt", desc := "(I)I" } : Jvm.MethodName)) ∈ zT := zj_in0 (i := 52) rfl rfl
theorem zw_0_52 : (Jvm.Cond.selects "RoadToPortModel" ({ cls := "RoadToPortModel", name := "readLine", desc := "()Z" } : Jvm.MethodName) ({ cls := "RoadToPortModel", name := "readLine", desc := "()Z" } : Jvm.MethodName)) ∈ zT := zj_in0 (i := 53) rfl rfl
theorem zw_0_53 : (Jvm.Cond.selects "RoadToPortModel" ({ cls := "RoadToPortModel", name := "isWord", desc := "(I)Z" } : Jvm.MethodName) ({ cls := "RoadToPortModel", name := "isWord", desc := "(I)Z" } : Jvm.MethodName)) ∈ zT := zj_in0 (i := 54) rfl rfl
theorem zw_0_54 : (Jvm.Cond.selects "RoadToPortModel" ({ cls := "RoadToPortModel", name := "readPlace", desc := "(I)Z" } : Jvm.MethodName) ({ cls := "RoadToPortModel", name := "readPlace", desc := "(I)Z" } : Jvm.MethodName)) ∈ zT := zj_in0 (i := 55) rfl rfl
theorem zw_0_55 : (Jvm.Cond.selects "RoadToPortModel" ({ cls := "RoadToPortModel", name := "readFirst", desc := "(II)Z" } : Jvm.MethodName) ({ cls := "RoadToPortModel", name := "readFirst", desc := "(II)Z" } : Jvm.MethodName)) ∈ zT := zj_in0 (i := 56) rfl rfl
theorem zw_0_56 : (Jvm.Cond.selects "RoadToPortModel" ({ cls := "RoadToPortModel", name := "bad", desc := "(I)Z" } : Jvm.MethodName) ({ cls := "RoadToPortModel", name := "bad", desc := "(I)Z" } : Jvm.MethodName)) ∈ zT := zj_in0 (i := 57) rfl rfl
theorem zw_0_57 : (Jvm.Cond.selects "RoadToPortModel" ({ cls := "RoadToPortModel", name := "readNew", desc := "(I)Z" } : Jvm.MethodName) ({ cls := "RoadToPortModel", name := "readNew", desc := "(I)Z" } : Jvm.MethodName)) ∈ zT := zj_in0 (i := 58) rfl rfl
theorem zw_0_58 : (Jvm.Cond.selects "RoadToPortModel" ({ cls := "RoadToPortModel", name := "isName", desc := "()Z" } : Jvm.MethodName) ({ cls := "RoadToPortModel", name := "isName", desc := "()Z" } : Jvm.MethodName)) ∈ zT := zj_in0 (i := 59) rfl rfl
theorem zw_0_59 : (Jvm.Cond.selects "RoadToPortModel" ({ cls := "RoadToPortModel", name := "readNumber", desc := "(II)Z" } : Jvm.MethodName) ({ cls := "RoadToPortModel", name := "readNumber", desc := "(II)Z" } : Jvm.MethodName)) ∈ zT := zj_in0 (i := 60) rfl rfl
theorem zw_0_60 : (Jvm.Cond.selects "RoadToPortModel" ({ cls := "RoadToPortModel", name := "put", desc := "(IZ)Z" } : Jvm.MethodName) ({ cls := "RoadToPortModel", name := "put", desc := "(IZ)Z" } : Jvm.MethodName)) ∈ zT := zj_in0 (i := 61) rfl rfl
theorem zw_0_61 : (Jvm.Cond.selects "RoadToPortModel" ({ cls := "RoadToPortModel", name := "readRoad", desc := "()Z" } : Jvm.MethodName) ({ cls := "RoadToPortModel", name := "readRoad", desc := "()Z" } : Jvm.MethodName)) ∈ zT := zj_in0 (i := 62) rfl rfl
theorem zw_0_62 : (Jvm.Cond.selects "RoadToPortModel" ({ cls := "RoadToPortModel", name := "isOne", desc := "(II)Z" } : Jvm.MethodName) ({ cls := "RoadToPortModel", name := "isOne", desc := "(II)Z" } : Jvm.MethodName)) ∈ zT := zj_in0 (i := 63) rfl rfl
theorem zw_0_63 : (Jvm.Cond.selects "RoadToPortModel" ({ cls := "RoadToPortModel", name := "readMan", desc := "()Z" } : Jvm.MethodName) ({ cls := "RoadToPortModel", name := "readMan", desc := "()Z" } : Jvm.MethodName)) ∈ zT := zj_in0 (i := 64) rfl rfl
theorem zw_0_64 : (Jvm.Cond.selects "RoadToPortModel" ({ cls := "RoadToPortModel", name := "readKin", desc := "()Z" } : Jvm.MethodName) ({ cls := "RoadToPortModel", name := "readKin", desc := "()Z" } : Jvm.MethodName)) ∈ zT := zj_in0 (i := 65) rfl rfl
theorem zw_0_65 : (Jvm.Cond.selects "RoadToPortModel" ({ cls := "RoadToPortModel", name := "readEnd", desc := "()Z" } : Jvm.MethodName) ({ cls := "RoadToPortModel", name := "readEnd", desc := "()Z" } : Jvm.MethodName)) ∈ zT := zj_in0 (i := 66) rfl rfl
theorem zw_0_66 : (Jvm.Cond.selects "RoadToPortModel" ({ cls := "RoadToPortModel", name := "isSign", desc := "(I)Z" } : Jvm.MethodName) ({ cls := "RoadToPortModel", name := "isSign", desc := "(I)Z" } : Jvm.MethodName)) ∈ zT := zj_in0 (i := 67) rfl rfl
theorem zw_0_67 : (Jvm.Cond.selects "RoadToPortModel" ({ cls := "RoadToPortModel", name := "layWays", desc := "()V" } : Jvm.MethodName) ({ cls := "RoadToPortModel", name := "layWays", desc := "()V" } : Jvm.MethodName)) ∈ zT := zj_in0 (i := 68) rfl rfl
theorem zw_0_68 : (Jvm.Cond.selects "RoadToPortModel" ({ cls := "RoadToPortModel", name := "roadMiles", desc := "(II)I" } : Jvm.MethodName) ({ cls := "RoadToPortModel", name := "roadMiles", desc := "(II)I" } : Jvm.MethodName)) ∈ zT := zj_in0 (i := 69) rfl rfl
theorem zw_0_69 : (Jvm.Cond.selects "RoadToPortModel" ({ cls := "RoadToPortModel", name := "startSo", desc := "()V" } : Jvm.MethodName) ({ cls := "RoadToPortModel", name := "startSo", desc := "()V" } : Jvm.MethodName)) ∈ zT := zj_in0 (i := 70) rfl rfl
theorem zw_0_70 : (Jvm.Cond.selects "RoadToPortModel" ({ cls := "RoadToPortModel", name := "isPlace", desc := "(I)Z" } : Jvm.MethodName) ({ cls := "RoadToPortModel", name := "isPlace", desc := "(I)Z" } : Jvm.MethodName)) ∈ zT := zj_in0 (i := 71) rfl rfl
theorem zw_0_71 : (Jvm.Cond.selects "RoadToPortModel" ({ cls := "RoadToPortModel", name := "placeOf", desc := "(I)I" } : Jvm.MethodName) ({ cls := "RoadToPortModel", name := "placeOf", desc := "(I)I" } : Jvm.MethodName)) ∈ zT := zj_in0 (i := 72) rfl rfl
theorem zw_0_72 : (Jvm.Cond.selects "RoadToPortModel" ({ cls := "RoadToPortModel", name := "layThere", desc := "(II)V" } : Jvm.MethodName) ({ cls := "RoadToPortModel", name := "layThere", desc := "(II)V" } : Jvm.MethodName)) ∈ zT := zj_in0 (i := 73) rfl rfl
theorem zw_0_73 : (Jvm.Cond.selects "RoadToPortModel" ({ cls := "RoadToPortModel", name := "layThere", desc := "(III)V" } : Jvm.MethodName) ({ cls := "RoadToPortModel", name := "layThere", desc := "(III)V" } : Jvm.MethodName)) ∈ zT := zj_in0 (i := 74) rfl rfl
theorem zw_0_74 : (Jvm.Cond.selects "RoadToPortModel" ({ cls := "RoadToPortModel", name := "nextOf", desc := "(II)I" } : Jvm.MethodName) ({ cls := "RoadToPortModel", name := "nextOf", desc := "(II)I" } : Jvm.MethodName)) ∈ zT := zj_in0 (i := 75) rfl rfl
theorem zw_0_75 : (Jvm.Cond.selects "RoadToPortModel" ({ cls := "RoadToPortModel", name := "roadOf", desc := "(II)I" } : Jvm.MethodName) ({ cls := "RoadToPortModel", name := "roadOf", desc := "(II)I" } : Jvm.MethodName)) ∈ zT := zj_in0 (i := 76) rfl rfl
theorem zw_0_76 : (Jvm.Cond.selects "RoadToPortModel" ({ cls := "RoadToPortModel", name := "isMan", desc := "(I)Z" } : Jvm.MethodName) ({ cls := "RoadToPortModel", name := "isMan", desc := "(I)Z" } : Jvm.MethodName)) ∈ zT := zj_in0 (i := 77) rfl rfl
theorem zw_0_77 : (Jvm.Cond.selects "RoadToPortModel" ({ cls := "RoadToPortModel", name := "refuse", desc := "()I" } : Jvm.MethodName) ({ cls := "RoadToPortModel", name := "refuse", desc := "()I" } : Jvm.MethodName)) ∈ zT := zj_in0 (i := 78) rfl rfl
theorem zw_0_78 : (Jvm.Cond.selects "RoadToPortModel" ({ cls := "RoadToPortModel", name := "daysOf", desc := "(I)I" } : Jvm.MethodName) ({ cls := "RoadToPortModel", name := "daysOf", desc := "(I)I" } : Jvm.MethodName)) ∈ zT := zj_in0 (i := 79) rfl rfl
theorem zw_0_79 : (Jvm.Cond.selects "RoadToPortModel" ({ cls := "RoadToPortModel", name := "those", desc := "(I)I" } : Jvm.MethodName) ({ cls := "RoadToPortModel", name := "those", desc := "(I)I" } : Jvm.MethodName)) ∈ zT := zj_in0 (i := 80) rfl rfl
theorem zw_0_80 : (Jvm.Cond.selects "RoadToPortModel" ({ cls := "RoadToPortModel", name := "isPort", desc := "(I)Z" } : Jvm.MethodName) ({ cls := "RoadToPortModel", name := "isPort", desc := "(I)Z" } : Jvm.MethodName)) ∈ zT := zj_in0 (i := 81) rfl rfl
theorem zw_0_81 : (Jvm.Cond.selects "RoadToPortModel" ({ cls := "RoadToPortModel", name := "act", desc := "(IIII)I" } : Jvm.MethodName) ({ cls := "RoadToPortModel", name := "act", desc := "(IIII)I" } : Jvm.MethodName)) ∈ zT := zj_in0 (i := 82) rfl rfl
theorem zw_0_82 : (Jvm.Cond.selects "RoadToPortModel" ({ cls := "RoadToPortModel", name := "why", desc := "(III)I" } : Jvm.MethodName) ({ cls := "RoadToPortModel", name := "why", desc := "(III)I" } : Jvm.MethodName)) ∈ zT := zj_in0 (i := 83) rfl rfl
theorem zw_0_83 : (Jvm.Cond.selects "RoadToPortModel" ({ cls := "RoadToPortModel", name := "farOf", desc := "(II)I" } : Jvm.MethodName) ({ cls := "RoadToPortModel", name := "farOf", desc := "(II)I" } : Jvm.MethodName)) ∈ zT := zj_in0 (i := 84) rfl rfl
theorem zw_0_84 : (Jvm.Cond.selects "RoadToPortModel" ({ cls := "RoadToPortModel", name := "whyEnter", desc := "(I)I" } : Jvm.MethodName) ({ cls := "RoadToPortModel", name := "whyEnter", desc := "(I)I" } : Jvm.MethodName)) ∈ zT := zj_in0 (i := 85) rfl rfl
theorem zw_0_85 : (Jvm.Cond.selects "RoadToPortModel" ({ cls := "RoadToPortModel", name := "snap", desc := "()V" } : Jvm.MethodName) ({ cls := "RoadToPortModel", name := "snap", desc := "()V" } : Jvm.MethodName)) ∈ zT := zj_in0 (i := 86) rfl rfl
theorem zw_0_86 : (Jvm.Cond.selects "RoadToPortModel" ({ cls := "RoadToPortModel", name := "live", desc := "(IIII)V" } : Jvm.MethodName) ({ cls := "RoadToPortModel", name := "live", desc := "(IIII)V" } : Jvm.MethodName)) ∈ zT := zj_in0 (i := 87) rfl rfl
theorem zw_0_87 : (Jvm.Cond.selects "RoadToPortModel" ({ cls := "RoadToPortModel", name := "doSwear", desc := "(III)V" } : Jvm.MethodName) ({ cls := "RoadToPortModel", name := "doSwear", desc := "(III)V" } : Jvm.MethodName)) ∈ zT := zj_in0 (i := 88) rfl rfl
theorem zw_0_88 : (Jvm.Cond.selects "RoadToPortModel" ({ cls := "RoadToPortModel", name := "doEnter", desc := "(I)V" } : Jvm.MethodName) ({ cls := "RoadToPortModel", name := "doEnter", desc := "(I)V" } : Jvm.MethodName)) ∈ zT := zj_in0 (i := 89) rfl rfl
theorem zw_0_89 : (Jvm.Cond.selects "RoadToPortModel" ({ cls := "RoadToPortModel", name := "passDays", desc := "(II)I" } : Jvm.MethodName) ({ cls := "RoadToPortModel", name := "passDays", desc := "(II)I" } : Jvm.MethodName)) ∈ zT := zj_in0 (i := 90) rfl rfl
theorem zw_0_90 : (Jvm.Cond.selects "RoadToPortModel" ({ cls := "RoadToPortModel", name := "oneDay", desc := "()V" } : Jvm.MethodName) ({ cls := "RoadToPortModel", name := "oneDay", desc := "()V" } : Jvm.MethodName)) ∈ zT := zj_in0 (i := 91) rfl rfl
theorem zw_0_91 : (Jvm.Cond.selects "RoadToPortModel" ({ cls := "RoadToPortModel", name := "waits", desc := "(I)V" } : Jvm.MethodName) ({ cls := "RoadToPortModel", name := "waits", desc := "(I)V" } : Jvm.MethodName)) ∈ zT := zj_in0 (i := 92) rfl rfl
theorem zw_0_92 : (Jvm.Cond.selects "RoadToPortModel" ({ cls := "RoadToPortModel", name := "draw", desc := "(I)I" } : Jvm.MethodName) ({ cls := "RoadToPortModel", name := "draw", desc := "(I)I" } : Jvm.MethodName)) ∈ zT := zj_in0 (i := 93) rfl rfl
theorem zw_0_93 : (Jvm.Cond.selects "RoadToPortModel" ({ cls := "RoadToPortModel", name := "walks", desc := "(I)V" } : Jvm.MethodName) ({ cls := "RoadToPortModel", name := "walks", desc := "(I)V" } : Jvm.MethodName)) ∈ zT := zj_in0 (i := 94) rfl rfl
theorem zw_0_94 : (Jvm.Cond.selects "RoadToPortModel" ({ cls := "RoadToPortModel", name := "hasFord", desc := "(II)Z" } : Jvm.MethodName) ({ cls := "RoadToPortModel", name := "hasFord", desc := "(II)Z" } : Jvm.MethodName)) ∈ zT := zj_in0 (i := 95) rfl rfl
theorem zw_0_95 : (Jvm.Cond.selects "RoadToPortModel" ({ cls := "RoadToPortModel", name := "dangerAt", desc := "(II)I" } : Jvm.MethodName) ({ cls := "RoadToPortModel", name := "dangerAt", desc := "(II)I" } : Jvm.MethodName)) ∈ zT := zj_in0 (i := 96) rfl rfl
theorem zw_0_96 : (Jvm.Cond.selects "RoadToPortModel" ({ cls := "RoadToPortModel", name := "layPlan", desc := "(II)V" } : Jvm.MethodName) ({ cls := "RoadToPortModel", name := "layPlan", desc := "(II)V" } : Jvm.MethodName)) ∈ zT := zj_in0 (i := 97) rfl rfl
theorem zw_0_97 : (Jvm.Cond.selects "RoadToPortModel" ({ cls := "RoadToPortModel", name := "at", desc := "(III)I" } : Jvm.MethodName) ({ cls := "RoadToPortModel", name := "at", desc := "(III)I" } : Jvm.MethodName)) ∈ zT := zj_in0 (i := 98) rfl rfl
theorem zw_0_98 : (Jvm.Cond.selects "RoadToPortModel" ({ cls := "RoadToPortModel", name := "goesTo", desc := "(IIII)J" } : Jvm.MethodName) ({ cls := "RoadToPortModel", name := "goesTo", desc := "(IIII)J" } : Jvm.MethodName)) ∈ zT := zj_in0 (i := 99) rfl rfl
theorem zw_0_99 : (Jvm.Cond.selects "RoadToPortModel" ({ cls := "RoadToPortModel", name := "sendFrom", desc := "(II)V" } : Jvm.MethodName) ({ cls := "RoadToPortModel", name := "sendFrom", desc := "(II)V" } : Jvm.MethodName)) ∈ zT := zj_in0 (i := 100) rfl rfl
theorem zw_0_100 : (Jvm.Cond.selects "RoadToPortModel" ({ cls := "RoadToPortModel", name := "leads", desc := "(III)Z" } : Jvm.MethodName) ({ cls := "RoadToPortModel", name := "leads", desc := "(III)Z" } : Jvm.MethodName)) ∈ zT := zj_in0 (i := 101) rfl rfl
theorem zw_0_101 : (Jvm.Cond.selects "RoadToPortModel" ({ cls := "RoadToPortModel", name := "turns", desc := "(IIII)Z" } : Jvm.MethodName) ({ cls := "RoadToPortModel", name := "turns", desc := "(IIII)Z" } : Jvm.MethodName)) ∈ zT := zj_in0 (i := 102) rfl rfl
theorem zw_0_102 : (Jvm.Cond.selects "RoadToPortModel" ({ cls := "RoadToPortModel", name := "writeWord", desc := "(J)V" } : Jvm.MethodName) ({ cls := "RoadToPortModel", name := "writeWord", desc := "(J)V" } : Jvm.MethodName)) ∈ zT := zj_in0 (i := 103) rfl rfl
theorem zw_0_103 : (Jvm.Cond.selects "RoadToPortModel" ({ cls := "RoadToPortModel", name := "write", desc := "(I)V" } : Jvm.MethodName) ({ cls := "RoadToPortModel", name := "write", desc := "(I)V" } : Jvm.MethodName)) ∈ zT := zj_in0 (i := 104) rfl rfl
theorem zw_0_104 : (Jvm.Cond.selects "RoadToPortModel" ({ cls := "RoadToPortModel", name := "writeNext", desc := "(J)V" } : Jvm.MethodName) ({ cls := "RoadToPortModel", name := "writeNext", desc := "(J)V" } : Jvm.MethodName)) ∈ zT := zj_in0 (i := 105) rfl rfl
theorem zw_0_105 : (Jvm.Cond.selects "RoadToPortModel" ({ cls := "RoadToPortModel", name := "writeNumber", desc := "(I)V" } : Jvm.MethodName) ({ cls := "RoadToPortModel", name := "writeNumber", desc := "(I)V" } : Jvm.MethodName)) ∈ zT := zj_in0 (i := 106) rfl rfl
theorem zw_0_106 : (Jvm.Cond.selects "RoadToPortModel" ({ cls := "RoadToPortModel", name := "layAside", desc := "()V" } : Jvm.MethodName) ({ cls := "RoadToPortModel", name := "layAside", desc := "()V" } : Jvm.MethodName)) ∈ zT := zj_in0 (i := 107) rfl rfl
theorem zw_0_107 : (Jvm.Cond.selects "RoadToPortModel" ({ cls := "RoadToPortModel", name := "takeBack", desc := "()V" } : Jvm.MethodName) ({ cls := "RoadToPortModel", name := "takeBack", desc := "()V" } : Jvm.MethodName)) ∈ zT := zj_in0 (i := 108) rfl rfl
theorem zw_0_108 : (Jvm.Cond.selects "RoadToPortModel" ({ cls := "RoadToPortModel", name := "readBookLine", desc := "()Z" } : Jvm.MethodName) ({ cls := "RoadToPortModel", name := "readBookLine", desc := "()Z" } : Jvm.MethodName)) ∈ zT := zj_in0 (i := 109) rfl rfl
theorem zw_0_109 : (Jvm.Cond.selects "RoadToPortModel" ({ cls := "RoadToPortModel", name := "keep", desc := "(IZ)Z" } : Jvm.MethodName) ({ cls := "RoadToPortModel", name := "keep", desc := "(IZ)Z" } : Jvm.MethodName)) ∈ zT := zj_in0 (i := 110) rfl rfl
theorem zw_0_110 : (Jvm.Cond.selects "RoadToPortModel" ({ cls := "RoadToPortModel", name := "readManDoes", desc := "(I)Z" } : Jvm.MethodName) ({ cls := "RoadToPortModel", name := "readManDoes", desc := "(I)Z" } : Jvm.MethodName)) ∈ zT := zj_in0 (i := 111) rfl rfl
theorem zw_0_111 : (Jvm.Cond.selects "RoadToPortModel" ({ cls := "RoadToPortModel", name := "readPort", desc := "()Z" } : Jvm.MethodName) ({ cls := "RoadToPortModel", name := "readPort", desc := "()Z" } : Jvm.MethodName)) ∈ zT := zj_in0 (i := 112) rfl rfl
theorem zw_0_112 : (Jvm.Cond.selects "RoadToPortModel" ({ cls := "RoadToPortModel", name := "goBy", desc := "(I)I" } : Jvm.MethodName) ({ cls := "RoadToPortModel", name := "goBy", desc := "(I)I" } : Jvm.MethodName)) ∈ zT := zj_in0 (i := 113) rfl rfl
theorem zw_0_113 : (Jvm.Cond.selects "RoadToPortModel" ({ cls := "RoadToPortModel", name := "stay", desc := "(Z)V" } : Jvm.MethodName) ({ cls := "RoadToPortModel", name := "stay", desc := "(Z)V" } : Jvm.MethodName)) ∈ zT := zj_in0 (i := 114) rfl rfl
theorem zw_0_114 : (Jvm.Cond.selects "RoadToPortModel" ({ cls := "RoadToPortModel", name := "readOr", desc := "()Z" } : Jvm.MethodName) ({ cls := "RoadToPortModel", name := "readOr", desc := "()Z" } : Jvm.MethodName)) ∈ zT := zj_in0 (i := 115) rfl rfl
theorem zw_0_115 : (Jvm.Cond.selects "RoadToPortModel" ({ cls := "RoadToPortModel", name := "readAnd", desc := "()Z" } : Jvm.MethodName) ({ cls := "RoadToPortModel", name := "readAnd", desc := "()Z" } : Jvm.MethodName)) ∈ zT := zj_in0 (i := 116) rfl rfl
theorem zw_0_116 : (Jvm.Cond.selects "RoadToPortModel" ({ cls := "RoadToPortModel", name := "readSaid", desc := "()Z" } : Jvm.MethodName) ({ cls := "RoadToPortModel", name := "readSaid", desc := "()Z" } : Jvm.MethodName)) ∈ zT := zj_in0 (i := 117) rfl rfl
theorem zw_0_117 : (Jvm.Cond.selects "RoadToPortModel" ({ cls := "RoadToPortModel", name := "readBracket", desc := "()Z" } : Jvm.MethodName) ({ cls := "RoadToPortModel", name := "readBracket", desc := "()Z" } : Jvm.MethodName)) ∈ zT := zj_in0 (i := 118) rfl rfl
theorem zw_0_118 : (Jvm.Cond.selects "RoadToPortModel" ({ cls := "RoadToPortModel", name := "readNot", desc := "()Z" } : Jvm.MethodName) ({ cls := "RoadToPortModel", name := "readNot", desc := "()Z" } : Jvm.MethodName)) ∈ zT := zj_in0 (i := 119) rfl rfl
theorem zw_0_119 : (Jvm.Cond.selects "RoadToPortModel" ({ cls := "RoadToPortModel", name := "saysOne", desc := "(IIII)I" } : Jvm.MethodName) ({ cls := "RoadToPortModel", name := "saysOne", desc := "(IIII)I" } : Jvm.MethodName)) ∈ zT := zj_in0 (i := 120) rfl rfl
theorem zw_0_120 : (Jvm.Cond.selects "RoadToPortModel" ({ cls := "RoadToPortModel", name := "readOf", desc := "(I)Z" } : Jvm.MethodName) ({ cls := "RoadToPortModel", name := "readOf", desc := "(I)Z" } : Jvm.MethodName)) ∈ zT := zj_in0 (i := 121) rfl rfl
theorem zw_0_121 : (Jvm.Cond.selects "RoadToPortModel" ({ cls := "RoadToPortModel", name := "readPlaceName", desc := "()Z" } : Jvm.MethodName) ({ cls := "RoadToPortModel", name := "readPlaceName", desc := "()Z" } : Jvm.MethodName)) ∈ zT := zj_in0 (i := 122) rfl rfl
theorem zw_0_122 : (Jvm.Cond.selects "RoadToPortModel" ({ cls := "RoadToPortModel", name := "readCompare", desc := "(I)Z" } : Jvm.MethodName) ({ cls := "RoadToPortModel", name := "readCompare", desc := "(I)Z" } : Jvm.MethodName)) ∈ zT := zj_in0 (i := 123) rfl rfl
theorem zw_0_123 : (Jvm.Cond.selects "RoadToPortModel" ({ cls := "RoadToPortModel", name := "holds", desc := "(II)Z" } : Jvm.MethodName) ({ cls := "RoadToPortModel", name := "holds", desc := "(II)Z" } : Jvm.MethodName)) ∈ zT := zj_in0 (i := 124) rfl rfl
